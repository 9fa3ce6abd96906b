import java.util.ArrayList;
import java.util.List;
import java.util.Random;

/** Drawn runs of calls, each answered by the class and by the model. */
public final class ModelTest {
    private static final int RUNS = 3000;
    private static final int CALLS = 400;

    private final Random random;
    private final Texts texts;
    private final ClothesHorses real = new ClothesHorses();
    private final Model model = new Model();
    private final List<String> run = new ArrayList<>();
    private String call;
    private long got;
    private long want;

    private ModelTest(int seed) {
        random = new Random(seed);
        texts = new Texts(random);
    }

    public static void main(String[] args) {
        int from = args.length > 0 ? Integer.parseInt(args[0]) : 0;
        int runs = args.length > 1 ? Integer.parseInt(args[1]) : RUNS;
        long answers = 0;
        for (int seed = from; seed < from + runs; seed++) {
            ModelTest test = new ModelTest(seed);
            if (!test.sameAnswers()) {
                System.out.println("seed " + seed + ":");
                test.run.forEach(System.out::println);
                System.exit(1);
            }
            answers += test.run.size();
        }
        for (int seed = from; seed < from + 10 * runs; seed++) {
            ModelTest test = new ModelTest(seed);
            test.read(seed % 3 == 0 ? test.texts.crowded() : test.texts.any());
            test.stopIfWrong();
            if (seed % 5 == 0) {
                test.nobble();
            }
        }
        System.out.println("ModelTest: " + answers + " answers as the model's");
    }

    private void stopIfWrong() {
        if (got != want) {
            System.out.println(call + " -> " + got + ", the model: " + want);
            System.exit(1);
        }
    }

    /** A horse whose paces are near a change, seen as it goes with a sock. */
    private void nobble() {
        is("horse", real.horse(6), model.horse(6));
        int pieces = 1 + random.nextInt(3);
        for (int i = 0; i < pieces; i++) {
            int weight = 3 + random.nextInt(7);
            int wet = random.nextInt(12 / pieces);
            is("piece", real.piece(0, weight, wet), model.piece(0, weight, wet));
            is("peg", real.peg(i, 0), model.pegs(i, 0, true));
        }
        read(new String[] {"paces 3-load/9;", "dries load/9;paces load/8;", "paces tenth(load+cell);", "start;"}[random.nextInt(4)]);
        int[] cells = model.cells(0, random.nextInt(6), random.nextInt(6));
        for (int i = 0; i <= random.nextInt(4); i++) {
            int n = 1 + random.nextInt(12);
            is("see(" + n + ", " + cells[n] + ")", real.see(n, cells[n]), model.see(n, cells[n]));
        }
        for (int what = 0; what < 3; what++) {
            is("nobbled(0, " + what + ")", real.nobbled(0, what), model.nobbled(0, what));
            stopIfWrong();
        }
    }

    private boolean sameAnswers() {
        int mood = random.nextInt(4);
        if (random.nextInt(100) == 0) {
            comeNearTheLastHour();
        }
        for (int i = 0; i < CALLS; i++) {
            ask(mood, i);
            run.add(call + " -> " + got + (got == want ? "" : ", the model: " + want));
            if (got != want) {
                return false;
            }
        }
        return true;
    }

    private void comeNearTheLastHour() {
        String hours = "hour 60;".repeat(24);
        Checks.text(real, hours);
        model.tape = hours.getBytes(java.nio.charset.StandardCharsets.ISO_8859_1);
        model.text();
        for (int i = 0; i < 6; i++) {
            real.played(0);
            model.played(0);
        }
        while (model.is(0) < 9880) {
            int n = 1 + random.nextInt(60);
            real.hour(n);
            model.hour(n);
        }
    }

    /** One of the low .. high, now and then one beside them. */
    private int some(int low, int high) {
        int dice = random.nextInt(40);
        if (dice == 0) {
            return low - 1;
        }
        if (dice == 1) {
            return high + 1;
        }
        if (dice == 2) {
            return new int[] {Integer.MIN_VALUE, Integer.MAX_VALUE, -1, -2, 0}[random.nextInt(5)];
        }
        return low + random.nextInt(high - low + 1);
    }

    private int aHorse() {
        return some(0, Math.max(0, model.about(0) - 1));
    }

    private int aPiece() {
        return some(0, Math.max(0, model.about(1) - 1));
    }

    private void is(String what, long a, long b) {
        call = what;
        got = a;
        want = b;
    }

    private void is(String what, boolean a, boolean b) {
        is(what, a ? 1 : 0, b ? 1 : 0);
    }

    private void ask(int mood, int i) {
        int dice = random.nextInt(100);
        if (i < 6 && mood != 0) {
            begin(i);
        } else if (dice < 34) {
            act();
        } else if (dice < 44) {
            tell();
        } else if (dice < 52) {
            script();
        } else if (dice < 75) {
            look();
        } else {
            reckon();
        }
    }

    private void begin(int i) {
        if (i % 2 == 0) {
            int hinges = some(1, 9);
            is("horse(" + hinges + ")", real.horse(hinges), model.horse(hinges));
        } else {
            newPiece();
        }
    }

    private void newPiece() {
        int stuff = some(0, 3);
        int weight = some(1, 9);
        int wet = some(0, 20);
        is("piece(" + stuff + ", " + weight + ", " + wet + ")", real.piece(stuff, weight, wet),
            model.piece(stuff, weight, wet));
    }

    private void act() {
        int a;
        int b;
        switch (random.nextInt(16)) {
            case 0:
                a = some(1, 9);
                is("horse(" + a + ")", real.horse(a), model.horse(a));
                break;
            case 1:
                newPiece();
                break;
            case 2:
                a = some(0, 11);
                b = some(0, 9);
                is("wind(" + a + ", " + b + ")", real.wind(a, b), model.wind(a, b));
                break;
            case 3:
            case 4:
            case 5:
            case 6:
                a = aPiece();
                b = aHorse();
                is("peg(" + a + ", " + b + ")", real.peg(a, b), model.pegs(a, b, true));
                break;
            case 7:
                a = aPiece();
                b = some(1, 20);
                is("sock(" + a + ", " + b + ")", real.sock(a, b), model.wets(a, b, true));
                break;
            case 8:
                is("start()", real.start(), model.starts(true));
                break;
            case 9:
            case 10:
                a = random.nextInt(6) == 0 ? some(1, 60) : some(1, 4);
                is("hour(" + a + ")", real.hour(a), model.hour(a));
                break;
            case 11:
                a = some(0, 9999);
                b = some(1, 40);
                is("years(" + a + ", " + b + ")", real.years(a, b), model.years(a, b));
                break;
            case 12:
            case 13:
            case 14:
                is("undo()", real.undo(), model.undo());
                break;
            default:
                if (random.nextInt(3) == 0) {
                    is("image()", real.image(), model.image());
                } else if (random.nextInt(3) == 0) {
                    is("back()", real.back(), model.back());
                } else {
                    a = some(-1, 8);
                    is("about(" + a + ")", real.about(a), model.about(a));
                }
                break;
        }
    }

    private void tell() {
        int a;
        int b;
        int n;
        switch (random.nextInt(6)) {
            case 0:
                a = some(0, 4);
                b = some(2, 20);
                is("odds(" + a + ", " + b + ")", real.odds(a, b), model.odds(a, b));
                break;
            case 1:
            case 2:
                a = some(0, 4);
                b = some(0, 4);
                n = random.nextBoolean() ? some(0, 3) : some(0, 99);
                is("beat(" + a + ", " + b + ", " + n + ")", real.beat(a, b, n), model.beat(a, b, n));
                break;
            case 3:
                a = some(0, 4);
                b = some(1, 20);
                is("strength(" + a + ", " + b + ")", real.strength(a, b), model.strength(a, b));
                break;
            case 4:
                a = random.nextInt(4) == 0 ? -1 : some(1, 12);
                b = likelyCell(a);
                is("see(" + a + ", " + b + ")", real.see(a, b), model.see(a, b));
                break;
            default:
                a = random.nextInt(4) == 0 ? -1 : aPiece();
                b = random.nextBoolean() ? likelyDries(a) : some(0, 20);
                is("said(" + a + ", " + b + ")", real.said(a, b), model.said(a, b));
                break;
        }
    }

    /** A cell that a horse could be seen in, so that not all that is seen is impossible. */
    private int likelyCell(int n) {
        if (model.about(0) == 0 || random.nextInt(4) == 0) {
            return some(0, 11);
        }
        /* One way for all that is seen in a run, so that it may agree. */
        int way = run.isEmpty() ? 0 : run.get(0).length();
        int[] cells = model.cells(0, way % 3, way % 6);
        return cells[Math.max(0, Math.min(12, n))];
    }

    private int likelyDries(int piece) {
        int dries = model.ofPiece(piece, 4);
        return dries < 0 ? some(0, 20) : dries;
    }

    private void script() {
        int a;
        switch (random.nextInt(9)) {
            case 0:
                a = some(-1, 3);
                is("by(" + a + ")", real.by(a), model.by(a));
                break;
            case 1:
                a = some(0, 3);
                is("played(" + a + ")", real.played(a), model.played(a));
                break;
            case 2:
                a = some(0, 1);
                is("fault(" + a + ")", real.fault(a), model.fault(a));
                break;
            case 3:
                a = some(0, Math.max(1, model.about(7)));
                is("end(" + a + ")", real.end(a), model.end(a));
                break;
            case 4:
                a = random.nextInt();
                is("feed(" + a + ", ..)", real.feed(a, 1, 2, 3, a), model.feed(a, 1, 2, 3, a));
                break;
            case 5:
                read(texts.any());
                break;
            case 6:
                read(random.nextBoolean() ? texts.crowded() : texts.any());
                break;
            case 7:
                read(texts.sound());
                break;
            default:
                read(texts.law(new String[] {"paces", "dries", "sheds"}[random.nextInt(3)]));
                break;
        }
    }

    private void read(String text) {
        Checks.tape(real, text);
        model.tape = text.getBytes(java.nio.charset.StandardCharsets.ISO_8859_1);
        int a = real.text();
        int b = model.text();
        String what = "text() of '" + text + "'";
        is(what, a, b);
        if (a == b) {
            is(what + " " + a + ", fault(0)", real.fault(0), model.fault(0));
        }
        if (got == want) {
            is(call + " " + got + ", fault(1)", real.fault(1), model.fault(1));
        }
        if (a >= 0 && random.nextBoolean()) {
            real.by(a);
            model.by(a);
        }
    }

    private void look() {
        int a;
        int b;
        switch (random.nextInt(14)) {
            case 0:
            case 1:
            case 2:
                a = aHorse();
                b = some(0, 6);
                is("of(" + a + ", " + b + ")", real.of(a, b), model.of(a, b));
                break;
            case 3:
            case 4:
                a = aPiece();
                b = some(0, 4);
                is("ofPiece(" + a + ", " + b + ")", real.ofPiece(a, b), model.ofPiece(a, b));
                break;
            case 5:
                a = some(0, 3);
                is("is(" + a + ")", real.is(a), model.is(a));
                break;
            case 6:
                a = some(0, 11);
                is("windAt(" + a + ")", real.windAt(a), model.windAt(a));
                break;
            case 7:
                a = some(-1, Math.max(0, model.ledger(-1)));
                b = some(0, 2);
                is("book(" + a + ", " + b + ")", real.book(a, b), model.book(a, b));
                break;
            case 8:
                is("lead()", real.lead(), model.lead());
                break;
            case 9:
                is("heaviest()", real.heaviest(), model.heaviest());
                break;
            case 10:
                is("grass()", real.grass(), model.grass());
                break;
            case 11:
                is("wettest()", real.wettest(), model.wettest());
                break;
            case 12:
                a = aHorse();
                is("wins(" + a + ")", real.wins(a), model.wins(a));
                break;
            default:
                a = random.nextInt(3) == 0 ? -1 : aHorse();
                is("ledger(" + a + ")", real.ledger(a), model.ledger(a));
                break;
        }
    }

    private void reckon() {
        int a;
        int b;
        int c;
        boolean low = random.nextBoolean();
        switch (random.nextInt(16)) {
            case 0:
            case 1:
                a = some(1, 60);
                b = some(0, 2);
                c = b == 1 ? aPiece() : aHorse();
                is("foretold(" + a + ", " + b + ", " + c + ")", real.foretold(a, b, c), model.foretold(a, b, c));
                break;
            case 2:
                is("winner()", real.winner(), model.winner());
                break;
            case 3:
                a = some(1, random.nextInt(10) == 0 ? 8 : 5);
                b = some(-1, Math.max(1, a) % 9);
                is("pack(" + a + ", " + b + ")", real.pack(a, b), model.pack(a, b));
                break;
            case 4:
                a = some(1, 20);
                b = random.nextBoolean() ? -1 : aHorse();
                is("sure(" + a + ", " + b + ")", real.sure(a, b), model.sure(a, b));
                break;
            case 5:
                a = some(-1, 5);
                is("ranking(" + a + ")", real.ranking(a), model.ranking(a));
                break;
            case 6:
                is("kings()", real.kings(), model.kings());
                break;
            case 7:
                is("rings()", real.rings(), model.rings());
                break;
            case 8:
                a = some(2, 4);
                b = some(-1, 10);
                is("heats(" + a + ", " + b + ")", real.heats(a, b), model.heats(a, b));
                break;
            case 9:
                a = aHorse();
                is("first(" + a + ", " + low + ")", real.first(a, low), model.first(a, low));
                break;
            case 10:
                a = aHorse();
                b = aHorse();
                is("order(" + a + ", " + b + ", " + low + ")", real.order(a, b, low), model.order(a, b, low));
                break;
            case 11:
                a = aHorse();
                is("two(" + a + ", " + low + ")", real.two(a, low), model.two(a, low));
                break;
            case 12:
            case 13:
                a = random.nextBoolean() ? 0 : aHorse();
                b = some(0, 2);
                is("nobbled(" + a + ", " + b + ")", real.nobbled(a, b), model.nobbled(a, b));
                break;
            case 14:
                a = aHorse();
                is("dry(" + a + ")", real.dry(a), model.dry(a));
                break;
            default:
                is("whose()", real.whose(), model.whose());
                break;
        }
    }
}
