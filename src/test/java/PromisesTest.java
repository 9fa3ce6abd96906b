public final class PromisesTest {
    public static void main(String[] args) {
        Checks checks = new Checks();
        checks.due("NONE", ClothesHorses.NONE, -1);
        checks.finish("PromisesTest");
    }
}
