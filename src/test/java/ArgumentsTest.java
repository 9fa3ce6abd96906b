import java.lang.reflect.InvocationTargetException;
import java.lang.reflect.Method;
import java.lang.reflect.Modifier;
import java.util.Random;

/** No call throws, for any arguments: each method with all edges of all its arguments, in states of many kinds. */
public final class ArgumentsTest {
    private static final int[] EDGES = {Integer.MIN_VALUE, Integer.MIN_VALUE + 1, -1000000, -300, -21, -3, -2, -1, 0, 1, 2, 3, 4, 5,
        6, 7, 8, 9, 10, 11, 12, 13, 20, 21, 29, 30, 31, 40, 41, 60, 61, 99, 100, 300, 301, 9999, 10000, 30707, 1 << 20,
        Integer.MAX_VALUE - 1, Integer.MAX_VALUE};
    private static final int STATES = 7;

    private static final Checks CHECKS = new Checks();

    public static void main(String[] args) throws ReflectiveOperationException {
        for (int state = 0; state < STATES; state++) {
            ClothesHorses x = made(state);
            x.image();
            for (Method method : ClothesHorses.class.getDeclaredMethods()) {
                if (Modifier.isPublic(method.getModifiers())) {
                    CHECKS.due("state " + state + ", " + method.getName() + ": calls that threw", thrown(x, method), 0);
                    x.back();
                }
            }
        }
        CHECKS.finish("ArgumentsTest");
    }

    private static ClothesHorses made(int state) {
        ClothesHorses x = new ClothesHorses();
        switch (state) {
            case 0:
                return x;
            case 1:
                x.horse(9);
                return x;
            case 2:
                x.piece(3, 9, 20);
                return x;
            case 3:
                fill(x, "paces 9999*9999/load;dries -wet*9999*9999;sheds tenth(-9999*9999);");
                break;
            case 4:
                fill(x, "paces winds(-9999*9999*9999);dries winds(cell+1)/(sun-sun);sheds if not wind>hour then 1 else 0 end;");
                x.hour(60);
                break;
            case 5:
                fill(x, "");
                Edges.passTo(x, 9999);
                break;
            default:
                fill(x, "paces 3;dries 20;sheds 0;");
                for (int i = 0; i < 9; i++) {
                    x.start();
                    x.hour(4);
                }
                break;
        }
        Checks.tape(x, "horse 1;".repeat(37));
        return x;
    }

    private static void fill(ClothesHorses x, String law) {
        for (int i = 0; i < 5; i++) {
            x.horse(1 + 2 * i);
            x.odds(i, 2 + i);
            x.strength(i, 20);
            x.beat(i, (i + 1) % 5, 99);
        }
        for (int i = 0; i < 10; i++) {
            x.piece(i % 4, 1 + i % 9, 2 * i);
            x.peg(i, i % 6);
            x.said(i, i);
            x.see(12 - i, i);
        }
        Checks.text(x, law);
        x.by(0);
    }

    private static int thrown(ClothesHorses x, Method method) throws ReflectiveOperationException {
        Class<?>[] types = method.getParameterTypes();
        Random random = new Random(types.length);
        long all = (long) Math.pow(EDGES.length, types.length);
        long calls = Math.min(all, 20000);
        int thrown = 0;
        for (long i = 0; i < calls; i++) {
            long which = calls == all ? i : random.nextLong() >>> 1;
            Object[] arguments = new Object[types.length];
            for (int j = 0; j < types.length; j++) {
                int edge = EDGES[(int) (which % EDGES.length)];
                arguments[j] = types[j] == boolean.class ? (Object) (edge > 0) : (Object) edge;
                which /= EDGES.length;
            }
            try {
                method.invoke(x, arguments);
            } catch (InvocationTargetException e) {
                thrown++;
                System.out.println(method + " of " + java.util.Arrays.toString(arguments) + ": " + e.getCause());
            }
        }
        return thrown;
    }
}
