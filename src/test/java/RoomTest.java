import java.lang.management.ManagementFactory;

/** What a run makes stays small: all calls of a run live in one room. */
public final class RoomTest {
    private static final int CALLS = 512;
    /* Far below the room: it has some millions of fields and elements, of four bytes and more each. */
    private static final long MOST_BYTES = 1_000_000;

    private static final com.sun.management.ThreadMXBean THREADS =
        (com.sun.management.ThreadMXBean) ManagementFactory.getThreadMXBean();

    public static void main(String[] args) {
        Checks checks = new Checks();
        measured(-1, new ClothesHorses());
        long object = -bytes();
        ClothesHorses made = new ClothesHorses();
        object += bytes();
        checks.due("a new object takes " + object + " bytes: few enough", object < MOST_BYTES, true);
        checks.due("it is there", made.about(0), 0);
        for (int call = 0; call < 14; call++) {
            ClothesHorses x = full();
            measured(call, x);
            long took = measured(call, x);
            checks.due("512 calls of kind " + call + " make " + took + " bytes: few enough", took < 20_000, true);
        }
        long texts = texts();
        checks.due("all texts that 512 calls can tell make " + texts + " bytes: few enough", texts < MOST_BYTES, true);
        checks.finish("RoomTest");
    }

    private static long bytes() {
        return THREADS.getCurrentThreadAllocatedBytes();
    }

    private static ClothesHorses full() {
        ClothesHorses x = new ClothesHorses();
        for (int i = 0; i < 5; i++) {
            x.horse(1 + i);
            x.strength(i, 20 - i);
            x.beat(i, (i + 1) % 5, 9);
            x.see(i + 1, i);
        }
        for (int i = 0; i < 10; i++) {
            x.piece(i % 4, 1 + i % 9, 20);
            x.peg(i, i % 5);
            x.said(i, i);
        }
        Checks.text(x, "paces if load>9 or cell<5 then tenth(sun*3) else winds(cell+1)/2 end;dries 1+stuff*wet/9;sheds 0;");
        Checks.text(x, "hour 60;".repeat(24));
        Checks.text(x, "start;hour 5;sock 3 on 2;");
        x.by(0);
        x.image();
        return x;
    }

    private static long measured(int kind, ClothesHorses x) {
        long before = bytes();
        for (int i = 0; i < CALLS; i++) {
            call(kind, x, i);
        }
        return bytes() - before;
    }

    private static long call(int kind, ClothesHorses x, int i) {
        switch (kind) {
            case 0:
                return x.hour(60);
            case 1:
                return x.years(i, 40);
            case 2:
                return x.played(1 + i % 2);
            case 3:
                return x.start() ? x.undo() : 0;
            case 4:
                return x.foretold(60, i % 3, i % 5);
            case 5:
                return x.winner();
            case 6:
                return x.pack(8, i % 8);
            case 7:
                return x.sure(1 + i % 20, i % 5);
            case 8:
                return x.ranking(i % 5) + x.kings() + x.rings();
            case 9:
                return x.heats(2 + i % 3, i % 4);
            case 10:
                return x.two(i % 5, true) + x.first(i % 5, true) + x.order(i % 5, (i + 1) % 5, true);
            case 11:
                return x.nobbled(i % 5, i % 3);
            case 12:
                return x.dry(i % 5) + x.whose();
            default:
                return x.image() + x.back();
        }
    }

    /* A text takes a call to feed, one to read it, and a fourth part of one to go back. */
    private static long texts() {
        ClothesHorses x = new ClothesHorses();
        long before = bytes();
        for (int i = 0; i < CALLS; i += 3) {
            x.feed(0x70616365, 0x7320312b, 0x312b312b, 0x312b312b, 0x312b313b);
            if (x.text() == 3) {
                x.back();
            }
        }
        return bytes() - before;
    }
}
