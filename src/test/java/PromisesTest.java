/** Each promise by itself: ordinary inputs, the edges that the document names, and wrong inputs. */
public final class PromisesTest {
    private static final int NONE = -1;
    private static final int MIN = Integer.MIN_VALUE;
    private static final int MAX = Integer.MAX_VALUE;
    private static final Checks CHECKS = new Checks();

    public static void main(String[] args) {
        newObject();
        horses();
        pieces();
        winds();
        tapes();
        textsAndFaults();
        moreFaults();
        laws();
        rulingTexts();
        pegs();
        socks();
        starts();
        hours();
        lastHour();
        shedding();
        plays();
        playsToTheLastHour();
        years();
        undo();
        undoForgets();
        ofHorses();
        ofPieces();
        is();
        books();
        fullBooks();
        oddBooks();
        foretold();
        winners();
        packs();
        sureBooks();
        rankings();
        kingsAndRings();
        heats();
        strengths();
        nobbled();
        dries();
        whoseLaw();
        atAGlance();
        winsAndLedger();
        images();
        about();
        CHECKS.finish("PromisesTest");
    }

    private static void due(String call, long got, long want) {
        CHECKS.due(call, got, want);
    }

    private static void due(String call, boolean got, boolean want) {
        CHECKS.due(call, got, want);
    }

    /** X behind so many draws. */
    private static int drawn(int x, int times) {
        int now = x;
        for (int i = 0; i < times; i++) {
            now = (now * 523 + 409) % 30707;
        }
        return now;
    }

    private static ClothesHorses with(int... hinges) {
        ClothesHorses x = new ClothesHorses();
        for (int h : hinges) {
            x.horse(h);
        }
        return x;
    }

    private static ClothesHorses ruledBy(String text, int... hinges) {
        ClothesHorses x = with(hinges);
        due("text() of " + text, Checks.text(x, text), 0);
        due("by(0)", x.by(0), true);
        return x;
    }

    // Promise 1
    private static void newObject() {
        ClothesHorses x = new ClothesHorses();
        for (int what = 0; what <= 7; what++) {
            due("new: about(" + what + ")", x.about(what), what == 3 ? NONE : 0);
        }
        due("new: is(0)", x.is(0), 0);
        due("new: is(1)", x.is(1), 277);
        due("new: is(2)", x.is(2), 0);
        due("new: is(3)", x.is(3), 0);
        due("new: of(0, 0)", x.of(0, 0), NONE);
        due("new: ofPiece(0, 0)", x.ofPiece(0, 0), -2);
        due("new: grass()", x.grass(), 0);
        due("new: kings()", x.kings(), 0);
        due("new: rings()", x.rings(), 0);
        due("new: ranking(-1)", x.ranking(-1), 0);
        due("new: ranking(0)", x.ranking(0), -2);
        due("new: winner()", x.winner(), NONE);
        due("new: whose()", x.whose(), 0);
        x.horse(3);
        x.piece(1, 1, 1);
        x.peg(0, 0);
        x.wind(5, 9);
        x.hour(3);
        x.odds(0, 9);
        due("the image is the new object: back()", x.back(), 0);
        due("then about(0)", x.about(0), 0);
        due("then about(1)", x.about(1), 0);
        due("then about(4)", x.about(4), 0);
        due("then is(1)", x.is(1), 277);
        due("then windAt(5)", x.windAt(5), 4);
        due("then horse(1)", x.horse(1), 0);
        due("then sure(1, -1) by odds 3", x.sure(1, -1), 1);
    }

    // Promise 2
    private static void horses() {
        ClothesHorses x = new ClothesHorses();
        for (int wrong : new int[] {0, 10, -1, MIN, MAX}) {
            due("horse(" + wrong + ")", x.horse(wrong), NONE);
        }
        due("about(0)", x.about(0), 0);
        int[] hinges = {1, 9, 5, 6, 2};
        for (int i = 0; i < 5; i++) {
            due("horse(" + hinges[i] + ")", x.horse(hinges[i]), i);
        }
        due("the sixth horse(3)", x.horse(3), NONE);
        due("about(0)", x.about(0), 5);
        for (int i = 0; i < 5; i++) {
            due("of(" + i + ", 0)", x.of(i, 0), hinges[i]);
            due("of(" + i + ", 1)", x.of(i, 1), 0);
            due("of(" + i + ", 2)", x.of(i, 2), 0);
        }
    }

    // Promise 3
    private static void pieces() {
        ClothesHorses x = new ClothesHorses();
        int[][] wrong = {{-1, 1, 0}, {4, 1, 0}, {0, 0, 0}, {0, 10, 0}, {0, 1, -1}, {0, 1, 21}, {MIN, 1, 1}, {1, MAX, 1}};
        for (int[] w : wrong) {
            due("piece(" + w[0] + ", " + w[1] + ", " + w[2] + ")", x.piece(w[0], w[1], w[2]), NONE);
        }
        due("about(1)", x.about(1), 0);
        for (int i = 0; i < 10; i++) {
            due("piece " + i, x.piece(i % 4, 1 + i % 9, 2 * i), i);
        }
        due("the eleventh piece", x.piece(0, 1, 0), NONE);
        due("about(1)", x.about(1), 10);
        for (int i = 0; i < 10; i++) {
            due("stuff of " + i, x.ofPiece(i, 0), i % 4);
            due("weight of " + i, x.ofPiece(i, 1), 1 + i % 9);
            due("wet of " + i, x.ofPiece(i, 2), 2 * i);
            due("place of " + i, x.ofPiece(i, 3), NONE);
        }
        due("piece(3, 9, 20)", new ClothesHorses().piece(3, 9, 20), 0);
    }

    // Promises 4 and 20
    private static void winds() {
        ClothesHorses x = new ClothesHorses();
        for (int cell = 0; cell < 12; cell++) {
            due("windAt(" + cell + ")", x.windAt(cell), 4);
            due("wind(" + cell + ", ..)", x.wind(cell, (cell + 3) % 10), true);
        }
        for (int cell = 0; cell < 12; cell++) {
            due("windAt(" + cell + ")", x.windAt(cell), (cell + 3) % 10);
        }
        due("wind(12, 1)", x.wind(12, 1), false);
        due("wind(-1, 1)", x.wind(-1, 1), false);
        due("wind(0, 10)", x.wind(0, 10), false);
        due("wind(0, -1)", x.wind(0, -1), false);
        due("windAt(0)", x.windAt(0), 3);
        due("windAt(-1)", x.windAt(-1), NONE);
        due("windAt(12)", x.windAt(12), NONE);
        due("windAt(MIN)", x.windAt(MIN), NONE);
        due("wind(11, 0)", x.wind(11, 0), true);
        due("windAt(11)", x.windAt(11), 0);
    }

    // Promises 5, 6 and 7: the tape
    private static void tapes() {
        ClothesHorses x = new ClothesHorses();
        due("end(0)", x.end(0), 0);
        due("end(1)", x.end(1), NONE);
        due("end(-1)", x.end(-1), NONE);
        for (int i = 1; i <= 15; i++) {
            due("feed " + i, x.feed(MAX, -1, 0, MIN, 1), 20 * i);
        }
        due("feed beyond 300", x.feed(0, 0, 0, 0, 0), NONE);
        due("about(7)", x.about(7), 300);
        due("end(301)", x.end(301), NONE);
        due("end(300)", x.end(300), 300);
        due("end(281)", x.end(281), 281);
        due("feed to 301", x.feed(0, 0, 0, 0, 0), NONE);
        due("about(7)", x.about(7), 281);
        due("end(280)", x.end(280), 280);
        due("feed to 300", x.feed(0, 0, 0, 0, 0), 300);
        due("text()", x.text(), NONE);
        due("fault(0)", x.fault(0), 1);
        due("fault(1)", x.fault(1), 0);
        due("a tape that was read is empty", x.about(7), 0);
        // The highest byte of a comes first: "hour 7; horse 9;" and blanks.
        due("feed", x.feed(0x686f7572, 0x20373b20, 0x686f7273, 0x6520393b, 0x20202020), 20);
        due("text()", x.text(), 0);
        due("about(7)", x.about(7), 0);
        due("played(0)", x.played(0), NONE);
        due("is(0)", x.is(0), 7);
        due("of(0, 0)", x.of(0, 0), 9);
    }

    /** Asks for a fault on a new object: the fault, and its place. */
    private static void fault(String text, int fault, int place) {
        ClothesHorses x = new ClothesHorses();
        due("text() of '" + text + "'", Checks.text(x, text), fault == 0 ? 0 : NONE);
        due("fault(0) of '" + text + "'", x.fault(0), fault);
        due("fault(1) of '" + text + "'", x.fault(1), place);
    }

    // Promises 7 and 8
    private static void textsAndFaults() {
        ClothesHorses x = new ClothesHorses();
        due("fault(0) ahead of any", x.fault(0), NONE);
        due("fault(1) ahead of any", x.fault(1), NONE);
        due("text()", Checks.text(x, "start;"), 0);
        due("fault(0)", x.fault(0), 0);
        due("fault(1)", x.fault(1), NONE);
        due("fault(2)", x.fault(2), NONE);
        due("fault(-1)", x.fault(-1), NONE);
        due("a text with a fault", Checks.text(x, "start"), NONE);
        due("fault(0)", x.fault(0), 1);
        due("fault(1)", x.fault(1), 5);
        due("about(7)", x.about(7), 0);
        due("about(2)", x.about(2), 1);
        due("an empty text", x.text(), 1);
        due("fault(0)", x.fault(0), 0);
        due("played(1)", x.played(1), NONE);
        due("a third", Checks.text(x, " \n "), 2);
        due("a fault between", Checks.text(x, "horse 0;"), NONE);
        due("a fourth", Checks.text(x, "hour 1;"), 3);
        Checks.tape(x, "start 5;");
        due("a fifth", x.text(), NONE);
        due("the tape stays", x.about(7), 8);
        due("it was not read: fault(0)", x.fault(0), 0);
        due("about(2)", x.about(2), 4);
        x.back();
        due("the tape is no part of the image", x.about(7), 8);
        due("nor is the fault", x.fault(0), 0);
        due("text()", x.text(), NONE);
        due("fault(0)", x.fault(0), 1);
        due("fault(1)", x.fault(1), 6);
        x.back();
        due("fault(0) behind back", x.fault(0), 1);
    }

    private static void moreFaults() {
        // Tokens.
        fault("paces 1 <= 2;", 1, 8);
        fault("paces if 1<=2then 1else 2end;", 0, NONE);
        fault("paces if 1< =2 then 1 else 2 end;", 1, 12);
        fault("paces if 1=>2 then 1 else 2 end;", 1, 11);
        fault("paces\n1\n;\n", 0, NONE);
        fault("paces\t1;", 1, 5);
        fault("Paces 1;", 1, 0);
        fault("paces pace;", 1, 6);
        fault("paces windsor;", 1, 6);
        fault("paces 1!;", 1, 7);
        fault("paces \u00e9;", 1, 6);
        fault("paces \0;", 1, 6);
        fault("paces 0009999;", 0, NONE);
        fault("paces 9999;", 0, NONE);
        fault("paces 99999999999999999999;", 2, 6);
        fault("horse 4294967297;", 2, 6);
        fault("horse 0001;", 0, NONE);
        fault("horse1;", 0, NONE);
        fault("1;", 1, 0);
        fault("10000;", 1, 0);
        fault("start 10000;", 1, 6);
        fault("start;;", 1, 6);
        fault("start  ", 1, 7);
        fault("paces 1", 1, 7);
        fault("paces", 1, 5);
        fault("paces ;", 1, 6);
        fault("paces 1 2;", 1, 8);
        fault("paces 1 wet;", 1, 8);
        fault("paces (1;", 1, 8);
        fault("paces 1);", 1, 7);
        fault("paces ();", 1, 7);
        fault("paces +1;", 1, 6);
        fault("paces 1*/2;", 1, 8);
        fault("paces -1;", 0, NONE);
        fault("paces 1--1;", 0, NONE);
        fault("paces not 1;", 1, 6);
        fault("paces at;", 1, 6);
        fault("paces horse;", 1, 6);
        // Clauses.
        fault("horse 9;horse 1;", 0, NONE);
        fault("horse -1;", 1, 6);
        fault("horse 1+1;", 1, 7);
        fault("horse;", 1, 5);
        fault("piece 3 weight 9 wet 20;piece 0 weight 1 wet 0;", 0, NONE);
        fault("piece 3 wet 9 weight 20;", 1, 8);
        fault("piece 0 weight 10 wet 0;", 2, 15);
        fault("piece 0 weight 1 wet;", 1, 20);
        fault("wind 9 at 11;wind 0 at 0;", 0, NONE);
        fault("wind 9 on 11;", 1, 7);
        fault("peg 9 to 4;peg 0 to 0;", 0, NONE);
        fault("peg 9 4;", 1, 6);
        fault("sock 20 on 9;sock 1 on 0;", 0, NONE);
        fault("sock 20 to 9;", 1, 8);
        fault("hour 0;", 2, 5);
        fault("hour 60;hour 1;", 0, NONE);
        fault("sun 1;", 1, 0);
        // If, and what is asked.
        fault("paces if 1<2 then 1 else 2 end;", 0, NONE);
        fault("paces if 1<2 then 1 else 2;", 1, 26);
        fault("paces if 1<2 then 1 end;", 1, 20);
        fault("paces if 1<2 1 else 2 end;", 1, 13);
        fault("paces if (1<2) then 1 else 2 end;", 1, 11);
        fault("paces if 1<2<3 then 1 else 2 end;", 1, 12);
        fault("paces if 1<2 or then 1 else 2 end;", 1, 16);
        fault("paces if 1<2 or not 3#4 and 5>=5 then 1 else 2 end;", 0, NONE);
        fault("paces if not then 1 else 2 end;", 1, 13);
        fault("paces if 1 and 2<3 then 1 else 2 end;", 1, 11);
        // Names.
        fault("paces hour+sun+wind+hinges+load+cell+who;", 0, NONE);
        fault("sheds hour+sun+wind+hinges+load+cell+who;", 0, NONE);
        fault("dries hour+sun+wind+hinges+load+cell+who+stuff+weight+wet;", 0, NONE);
        fault("sheds weight;", 5, 6);
        fault("sheds wet;", 5, 6);
        fault("paces stuff;", 5, 6);
        fault("dries 1;paces wet;", 5, 14);
        // Twice.
        fault("dries 1;sheds 1;paces 1;", 0, NONE);
        fault("dries 1;start;dries wet;", 4, 14);
        fault("sheds 1;sheds 2;", 4, 8);
        // What is open.
        fault("paces ((((((((1))))))));", 0, NONE);
        fault("paces (-tenth winds(-tenth(1)))+((((((((1))))))));", 0, NONE);
        fault("paces --------1;", 0, NONE);
        fault("paces ---------1;", 3, 14);
        fault("paces 1---------1;", 0, NONE);
        fault("paces 1----------1;", 3, 16);
        fault("paces tenth tenth tenth tenth tenth tenth tenth tenth 1;", 0, NONE);
        fault("paces tenth tenth tenth tenth tenth tenth tenth tenth tenth 1;", 3, 54);
        fault("paces if not not not not not not not 1<2 then 1 else 2 end;", 0, NONE);
        fault("paces if not not not not not not not not 1<2 then 1 else 2 end;", 3, 37);
        fault("paces if not not not not not not not (1)<2 then 1 else 2 end;", 3, 37);
        fault("paces if not not not not not not not 1<2 then (1) else (2) end;", 0, NONE);
        fault("paces (((((((if 1<2 then 1 else 2 end)))))));", 0, NONE);
        fault("paces ((((((((if 1<2 then 1 else 2 end))))))));", 3, 14);
        fault("paces (((((((if 1<(2) then 1 else 2 end)))))));", 3, 18);
        fault("paces ((((((((1!", 1, 15);
        fault("paces (((((((((", 3, 14);
        // The 25th.
        String most = "start;".repeat(24);
        fault(most, 0, NONE);
        fault(most + "start", 6, 144);
        fault(most + "begin", 1, 144);
        fault(most + "horse 0;", 6, 144);
        fault("paces 1;" + "start;".repeat(23) + "paces", 4, 146);
        fault("paces 1;" + "start;".repeat(23) + "dries", 6, 146);
        fault("start;".repeat(23) + "horse 0;start;", 2, 144);
    }

    /** What paces are by a text, for a horse of 5 hinges with a piece of stuff 2, weight 3 and wet 9. */
    private static void paces(String sum, int want) {
        ClothesHorses x = ruledBy("paces " + sum + ";", 1, 5);
        x.piece(2, 3, 9);
        x.peg(0, 1);
        x.wind(0, 6);
        x.wind(11, 2);
        due("paces " + sum, x.of(1, 5), want);
    }

    private static void dries(String sum, int want) {
        ClothesHorses x = ruledBy("dries " + sum + ";", 1, 5);
        x.piece(0, 1, 0);
        x.piece(2, 3, 9);
        x.peg(1, 1);
        due("dries " + sum, x.ofPiece(1, 4), want);
    }

    // What laws mean (the terms of part II), by promises 17 and 18
    private static void laws() {
        paces("2", 2);
        paces("4", 3);
        paces("0-1", 0);
        paces("1+2*3-5", 2);
        paces("(1+2)*3-8", 1);
        paces("9-3-4", 2);
        paces("8/2/2", 2);
        paces("7/2", 3);
        paces("-7/2+5", 2);
        paces("7/-2+5", 2);
        paces("7/0+1", 1);
        paces("tenth 29", 2);
        paces("tenth(-1)+2", 1);
        paces("tenth -11+4", 2);
        paces("tenth -10+3", 2);
        paces("tenth 20*10-18", 2);
        paces("winds 0-4", 2);
        paces("winds 11", 2);
        paces("winds 12+1", 1);
        paces("winds(-1)+1", 1);
        paces("winds winds 0-2", 2);
        paces("hinges-3", 2);
        paces("load-10", 2);
        paces("who*2", 2);
        paces("wind-4", 2);
        paces("cell+1", 1);
        paces("sun+hour+1", 1);
        paces("9999*9999/9999-98", 2);
        paces("9999*9999-9999*100-98", 2);
        paces("-9999*9999+9999*100+102", 2);
        paces("9999*100+9999-9999*100-98", 2);
        paces("-9999*100-9999+9999*100+102", 2);
        paces("9999*9999-9999*9999+1", 1);
        paces("if 1<2 then 1 else 2 end", 1);
        paces("if 2<2 then 1 else 2 end", 2);
        paces("if 2<=2 then 1 else 2 end", 1);
        paces("if 3<=2 then 1 else 2 end", 2);
        paces("if 3>2 then 1 else 2 end", 1);
        paces("if 2>2 then 1 else 2 end", 2);
        paces("if 2>=2 then 1 else 2 end", 1);
        paces("if 1>=2 then 1 else 2 end", 2);
        paces("if 2=2 then 1 else 2 end", 1);
        paces("if 1=2 then 1 else 2 end", 2);
        paces("if 1#2 then 1 else 2 end", 1);
        paces("if 2#2 then 1 else 2 end", 2);
        paces("if not 1<2 then 1 else 2 end", 2);
        paces("if not not 1<2 then 1 else 2 end", 1);
        paces("if 1<2 or 1<2 and 2<1 then 1 else 2 end", 1);
        paces("if 2<1 and 1<2 or 1<2 then 1 else 2 end", 1);
        paces("if 2<1 or 2<1 then 1 else 2 end", 2);
        paces("if 1<2 and 2<1 then 1 else 2 end", 2);
        paces("if not 2<1 and 1<2 then 1 else 2 end", 1);
        paces("if not 1<2 or 1<2 then 1 else 2 end", 1);
        for (String so : new String[] {"1<2", "2<=2", "2>1", "2>=2", "2=2", "1#2", "not 2<1"}) {
            paces("if " + so + " and 1<2 then 1 else 2 end", 1);
            paces("if 1<2 and " + so + " then 1 else 2 end", 1);
            paces("if " + so + " or 2<1 then 1 else 2 end", 1);
            paces("if not " + so + " or 2<1 then 1 else 2 end", 2);
        }
        paces("1" + "-1+1".repeat(72), 1);
        paces("8" + "/2*2".repeat(72) + "-6", 2);
        paces("if 2<1" + " or 2<1".repeat(30) + " then 1 else 2 end", 2);
        paces("if 1<2" + " and 1<2".repeat(30) + " then 1 else 2 end", 1);
        String deep = "3+1*-1";
        for (int i = 0; i < 7; i++) {
            deep = "1+1*if 2<1or 1<2and 1<" + deep + " then 1else 2end";
        }
        paces(deep, 2);
        paces("if 1<2 then if 2<1 then 1 else 3 end else 2 end", 3);
        paces("if 2<1 then 1 else if 1<2 then 3 else 2 end end", 3);
        paces("1+if 1<2 then 1 else 2 end*2", 3);
        dries("stuff", 2);
        dries("weight", 3);
        dries("wet", 9);
        dries("load", 12);
        dries("who", 1);
        dries("hinges", 5);
        dries("21", 20);
        dries("0-1", 0);
        ClothesHorses x = ruledBy("sheds 11;", 5);
        due("sheds 11", x.of(0, 6), 10);
        x = ruledBy("sheds -1;", 5);
        due("sheds -1", x.of(0, 6), 0);
        x = ruledBy("sheds hinges+hour;", 5);
        due("sheds hinges+hour", x.of(0, 6), 5);
        x.hour(2);
        due("sheds hinges+hour behind two", x.of(0, 6), 7);
        x = ruledBy("paces sun-6;", 1);
        due("paces sun-6 at sun 0", x.of(0, 5), 0);
        x.hour(1);
        due("paces sun-6 at sun 7", x.of(0, 5), 1);
        due("by these it went on", x.of(0, 1), 1);
    }

    // Promise 9
    private static void rulingTexts() {
        ClothesHorses x = with(9);
        due("by(0)", x.by(0), false);
        due("by(-1)", x.by(NONE), true);
        Checks.text(x, "paces 0;");
        Checks.text(x, "start;");
        due("a text that is told doesn't rule", x.of(0, 5), 3);
        due("by(0)", x.by(0), true);
        due("of(0, 5)", x.of(0, 5), 0);
        due("about(3)", x.about(3), 0);
        due("by(2)", x.by(2), false);
        due("by(-2)", x.by(-2), false);
        due("by(MAX)", x.by(MAX), false);
        due("about(3)", x.about(3), 0);
        due("by(1)", x.by(1), true);
        due("a text without the law", x.of(0, 5), 3);
        due("by(0)", x.by(0), true);
        due("by(-1)", x.by(NONE), true);
        due("about(3)", x.about(3), NONE);
        due("of(0, 5)", x.of(0, 5), 3);
    }

    // Promise 10
    private static void pegs() {
        ClothesHorses x = with(9, 9);
        x.piece(0, 1, 0);
        x.piece(0, 1, 5);
        due("peg(2, 0)", x.peg(2, 0), false);
        due("peg(-1, 0)", x.peg(-1, 0), false);
        due("peg(0, 2)", x.peg(0, 2), false);
        due("peg(0, -1)", x.peg(0, -1), false);
        due("about(4)", x.about(4), 0);
        due("peg(1, 1)", x.peg(1, 1), true);
        due("peg(1, 1) again", x.peg(1, 1), false);
        due("peg(1, 0)", x.peg(1, 0), false);
        due("about(4)", x.about(4), 1);
        due("ofPiece(1, 3)", x.ofPiece(1, 3), 1);
        due("of(1, 3)", x.of(1, 3), 2);
        due("of(0, 3)", x.of(0, 3), 0);
        // Horse 0 carries nothing and goes 3 cells an hour: it is in behind 4.
        due("hour(4)", x.hour(4), 1);
        due("of(0, 2)", x.of(0, 2), 1);
        due("peg to one that is in", x.peg(0, 0), false);
        due("peg to another", x.peg(0, 1), true);
        due("start()", x.start(), true);
        due("pieces stay", x.peg(0, 0), false);
    }

    // Promise 11
    private static void socks() {
        ClothesHorses x = with(1);
        x.piece(0, 1, 3);
        due("sock(0, 0)", x.sock(0, 0), false);
        due("sock(0, 21)", x.sock(0, 21), false);
        due("sock(0, -1)", x.sock(0, -1), false);
        due("sock(1, 1)", x.sock(1, 1), false);
        due("sock(-1, 1)", x.sock(-1, 1), false);
        due("about(4)", x.about(4), 0);
        due("sock(0, 1)", x.sock(0, 1), true);
        due("ofPiece(0, 2)", x.ofPiece(0, 2), 4);
        due("sock(0, 20)", x.sock(0, 20), true);
        due("ofPiece(0, 2)", x.ofPiece(0, 2), 20);
        due("as wet as can be", x.sock(0, 1), false);
        due("about(4)", x.about(4), 2);
        due("undo()", x.undo(), 1);
        due("ofPiece(0, 2)", x.ofPiece(0, 2), 4);
        due("one that is on a horse", x.peg(0, 0) && x.sock(0, 2), true);
        due("of(0, 4)", x.of(0, 4), 7);
    }

    // Promise 12
    private static void starts() {
        ClothesHorses x = new ClothesHorses();
        due("start() without horses", x.start(), false);
        due("about(4)", x.about(4), 0);
        x.horse(9);
        x.horse(1);
        x.piece(0, 2, 20);
        x.peg(0, 1);
        Checks.text(x, "sheds 0;");
        x.by(0);
        due("hour(4)", x.hour(4), 1);
        int sun = x.is(2);
        int now = x.is(1);
        int wet = x.ofPiece(0, 2);
        due("of(0, 2)", x.of(0, 2), 1);
        due("start()", x.start(), true);
        due("of(0, 1)", x.of(0, 1), 0);
        due("of(0, 2)", x.of(0, 2), 0);
        due("of(1, 1)", x.of(1, 1), 0);
        due("is(0)", x.is(0), 4);
        due("is(1)", x.is(1), now);
        due("is(2)", x.is(2), sun);
        due("is(3)", x.is(3), 0);
        due("ofPiece(0, 2)", x.ofPiece(0, 2), wet);
        due("ofPiece(0, 3)", x.ofPiece(0, 3), 1);
        due("book(-1, 0)", x.book(-1, 0), 1);
        due("about(4)", x.about(4), 6);
        due("start() again", x.start(), true);
        due("about(4)", x.about(4), 7);
        due("undo()", x.undo(), 6);
        due("undo()", x.undo(), 5);
        due("of(0, 2)", x.of(0, 2), 1);
        due("of(0, 1)", x.of(0, 1), 11);
    }

    // Promise 13
    private static void hours() {
        ClothesHorses x = new ClothesHorses();
        for (int wrong : new int[] {0, -1, 61, MIN, MAX}) {
            due("hour(" + wrong + ")", x.hour(wrong), NONE);
        }
        due("is(0)", x.is(0), 0);
        due("hours pass without horses", x.hour(2), 0);
        due("is(0)", x.is(0), 2);
        due("is(1)", x.is(1), drawn(277, 2));
        due("is(2)", x.is(2), drawn(277, 1) % 10);
        // Without a piece there is no draw but the sun's: paces 3, 3 and 2.
        x.horse(6);
        x.horse(9);
        x.horse(5);
        due("hour(3)", x.hour(3), 0);
        due("of(0, 1)", x.of(0, 1), 9);
        due("of(2, 1)", x.of(2, 1), 6);
        due("is(1)", x.is(1), drawn(277, 5));
        due("hour(1)", x.hour(1), 2);
        due("of(0, 1)", x.of(0, 1), 11);
        due("of(0, 2)", x.of(0, 2), 1);
        due("of(1, 2)", x.of(1, 2), 2);
        due("hour(60)", x.hour(60), 1);
        due("of(2, 2)", x.of(2, 2), 3);
        due("is(0)", x.is(0), 66);
        due("none is left", x.hour(60), 0);
        due("about(4)", x.about(4), 30);
        // Pieces dry one behind the other, and each finds what the one ahead left.
        x = ruledBy("dries load/4;sheds 0;paces 0;", 1);
        x.piece(0, 2, 10);
        x.piece(0, 2, 10);
        x.peg(0, 0);
        x.peg(1, 0);
        due("hour(1)", x.hour(1), 0);
        due("24 / 4 less", x.ofPiece(0, 2), 4);
        due("18 / 4 less", x.ofPiece(1, 2), 6);
        // HOUR is one more when all is done.
        x = ruledBy("paces hour;", 1);
        x.hour(1);
        due("by HOUR 0", x.of(0, 1), 0);
        x.hour(1);
        due("by HOUR 1", x.of(0, 1), 1);
        // At cell 11 it waits till all is dry.
        x = ruledBy("paces 3;dries 1;sheds 0;", 1);
        x.piece(0, 1, 6);
        x.peg(0, 0);
        due("hour(5)", x.hour(5), 0);
        due("of(0, 1)", x.of(0, 1), 11);
        due("hour(1)", x.hour(1), 1);
        due("book(0, 0)", x.book(0, 0), 5);
        // The piece of one that is in dries no more.
        x.sock(0, 7);
        x.hour(3);
        due("ofPiece(0, 2)", x.ofPiece(0, 2), 7);
    }

    private static void lastHour() {
        ClothesHorses x = ruledBy("paces 1;dries 0;sheds 0;", 1);
        x.piece(0, 1, 1);
        for (int i = 0; i < 166; i++) {
            x.hour(60);
        }
        due("is(0)", x.is(0), 9960);
        due("beyond 9999", x.hour(40), NONE);
        due("is(0)", x.is(0), 9960);
        x.start();
        x.horse(1);
        due("hour(38)", x.hour(38), 2);
        due("is(0)", x.is(0), 9998);
        x.start();
        due("foretold, those that can pass", x.foretold(60, 0, 0), 1);
        due("the winner would take longer", x.winner(), NONE);
        due("hour(2)", x.hour(2), NONE);
        int now = x.is(1);
        due("hour(1)", x.hour(1), 0);
        due("is(0)", x.is(0), 9999);
        due("is(1)", x.is(1), drawn(now, 1));
        due("hour(1) at 9999", x.hour(1), NONE);
        due("of(0, 1)", x.of(0, 1), 1);
        due("foretold at 9999", x.foretold(1, 0, 0), 1);
        // Behind 9999, years draw but no hour passes.
        due("years(0, 3)", x.years(0, 3), 9999);
        due("is(1)", x.is(1), drawn(277, 3));
        due("played", x.played(0), NONE);
        due("undo()", x.undo(), 29);
        due("undo()", x.undo(), 28);
        due("is(0)", x.is(0), 9998);
        due("hour(1)", x.hour(1), 0);
    }

    private static void shedding() {
        // X is 277, 22452, 12731: the sun is 7, the draw of horse 0 is 2, that of horse 1 is 1.
        for (int sheds = 0; sheds <= 4; sheds++) {
            ClothesHorses x = ruledBy("paces 2;dries 1;sheds " + sheds + ";", 1, 1, 1);
            x.piece(0, 1, 9);
            x.piece(0, 1, 9);
            x.piece(0, 1, 9);
            x.peg(2, 0);
            x.peg(1, 0);
            x.peg(0, 1);
            x.hour(1);
            due("below " + sheds + " horse 0 sheds its lowest", x.of(0, 3), sheds > 2 ? 4 : 6);
            due("and stops", x.of(0, 1), sheds > 2 ? 0 : 2);
            due("below " + sheds + " horse 1 sheds", x.of(1, 3), sheds > 1 ? 0 : 1);
            due("and stops", x.of(1, 1), sheds > 1 ? 0 : 2);
            due("horse 2 has none to shed", x.of(2, 1), 2);
            due("they dried ahead of it", x.ofPiece(1, 2), 8);
            due("three draws", x.is(1), drawn(277, 3));
        }
        ClothesHorses x = ruledBy("sheds load;dries wet;", 1);
        x.piece(0, 2, 9);
        x.peg(0, 0);
        x.hour(1);
        due("sheds is asked behind drying: 2 is not below 2", x.of(0, 3), 1);
        // One that sheds in the last cell isn't in, though nothing is on it then.
        x = ruledBy("paces 3;dries 0;sheds 0;", 1);
        x.piece(0, 1, 1);
        x.peg(0, 0);
        x.hour(4);
        Checks.text(x, "sheds 10;");
        x.by(1);
        due("hour(1)", x.hour(1), 0);
        due("of(0, 2)", x.of(0, 2), 0);
        due("grass()", x.grass(), 1);
        due("hour(1)", x.hour(1), 1);
    }

    // Promise 14
    private static void plays() {
        ClothesHorses x = new ClothesHorses();
        due("played(0)", x.played(0), -2);
        due("played(-1)", x.played(-1), -2);
        String all = "paces 1;horse 7;piece 3 weight 2 wet 20;wind 9 at 3;peg 0 to 0;sock 2 on 0;";
        due("text", Checks.text(x, all + "hour 3;"), 0);
        due("as wet as can be: the 5th, from 0", x.played(0), 5);
        due("what was done stays: of(0, 0)", x.of(0, 0), 7);
        due("ofPiece(0, 3)", x.ofPiece(0, 3), 0);
        due("windAt(3)", x.windAt(3), 9);
        due("is(0)", x.is(0), 0);
        due("about(4)", x.about(4), 1);
        due("its laws don't rule by that", x.about(3), NONE);
        due("text", Checks.text(x, "start;sheds 0;hour 3;dries 2;sock 2 on 0;start;"), 1);
        x.by(1);
        due("played(1)", x.played(1), NONE);
        due("is(0)", x.is(0), 3);
        due("ofPiece(0, 2)", x.ofPiece(0, 2), 20 - 3 * 2 + 2);
        due("of(0, 1)", x.of(0, 1), 0);
        due("about(4)", x.about(4), 7);
        due("text", Checks.text(x, "horse 1;horse 1;horse 1;horse 1;horse 1;"), 2);
        due("the sixth horse can't be", x.played(2), 4);
        due("about(0)", x.about(0), 5);
        due("at once", x.played(2), 0);
        due("played(3)", x.played(3), -2);
        due("text", Checks.text(x, "piece 1 weight 1 wet 1;peg 0 to 4;"), 3);
        due("one that is on a horse", x.played(3), 1);
        due("about(1)", x.about(1), 2);
        for (int i = 2; i < 10; i++) {
            due("played(3)", x.played(3), 1);
        }
        due("the eleventh piece can't be", x.played(3), 0);
        x = new ClothesHorses();
        due("text", Checks.text(x, "hour 2;start;"), 0);
        due("no horse to start", x.played(0), 1);
        due("is(0)", x.is(0), 2);
        due("text", Checks.text(x, "wind 9 at 3;"), 1);
        due("played(1)", x.played(1), NONE);
        due("WIND, then CELL", x.windAt(3), 9);
        x.piece(0, 1, 0);
        x.piece(0, 1, 0);
        due("text", Checks.text(x, "sock 5 on 1;"), 2);
        due("played(2)", x.played(2), NONE);
        due("wet, then PIECE", x.ofPiece(1, 2), 5);
        x.horse(1);
        due("text", Checks.text(x, "peg 1 to 0;"), 3);
        due("played(3)", x.played(3), NONE);
        due("PIECE, then HORSE", x.ofPiece(1, 3), 0);
    }

    private static void playsToTheLastHour() {
        ClothesHorses x = new ClothesHorses();
        Checks.text(x, "hour 60;".repeat(24));
        for (int i = 0; i < 6; i++) {
            due("played(0)", x.played(0), NONE);
        }
        due("is(0)", x.is(0), 6 * 24 * 60);
        due("9999 is behind 22 clauses and 39 hours", x.played(0), 22);
        due("those that can pass do", x.is(0), 9999);
        due("is(1)", x.is(1), drawn(277, 9999));
        due("played(0)", x.played(0), 0);
        due("about(4)", x.about(4), 30);
    }

    // Promise 15
    private static void years() {
        ClothesHorses x = new ClothesHorses();
        int[][] wrong = {{-1, 1}, {10000, 1}, {0, 0}, {0, 41}, {MIN, 1}, {1, MAX}};
        for (int[] w : wrong) {
            due("years(" + w[0] + ", " + w[1] + ")", x.years(w[0], w[1]), NONE);
        }
        due("about(4)", x.about(4), 0);
        due("is(1)", x.is(1), 277);
        // Without horses and pieces just hours pass: 277, 22452, 12731 mod 6 are 1, 0, 5.
        due("years(0, 3)", x.years(0, 3), 1);
        due("X is drawn by the hour, too", x.is(1), drawn(277, 4));
        due("is(2)", x.is(2), drawn(277, 3) % 10);
        due("about(4)", x.about(4), 1);
        due("undo()", x.undo(), 0);
        due("is(0)", x.is(0), 0);
        due("is(1)", x.is(1), 277);
        x.horse(1);
        x.horse(1);
        x.horse(1);
        x.piece(0, 1, 0);
        x.piece(0, 1, 0);
        due("years(0, 1)", x.years(0, 1), 0);
        due("piece 277 mod 2 to horse 46 mod 3", x.ofPiece(1, 3), 1);
        due("years(0, 2)", x.years(0, 2), 0);
        due("piece 22452 mod 2 to horse 3742 mod 3", x.ofPiece(0, 3), 1);
        // 2 * 4 + 277 is 285, of kind 3 and odd: nothing is started. 2 * 5 + 277 is 287, of kind 5.
        due("years(5, 1)", x.years(5, 1), 1);
        int cell = x.of(0, 1);
        due("they went on", cell > 0, true);
        due("years(4, 1)", x.years(4, 1), 1);
        due("of(0, 1)", x.of(0, 1), cell);
        // The first x of kind 2 behind an even seed's: 277 + 2 s is odd, so it is the second draw.
        int seed = 0;
        while (drawn(277 + 2 * seed, 1) % 6 != 2 || (277 + 2 * seed) % 6 != 3) {
            seed++;
        }
        int wetting = drawn(277 + 2 * seed, 1);
        int piece = wetting % 2;
        int wet = x.ofPiece(piece, 2);
        due("years(seed, 2)", x.years(seed, 2), 1);
        due("wetted by 1 and x mod 9", x.ofPiece(piece, 2), Math.min(20, wet + 1 + wetting % 9));
        due("about(4)", x.about(4), 5);
        due("years(9999, 40)", x.years(9999, 40) >= 1, true);
        due("one step", x.about(4), 6);
        due("undo()", x.undo(), 5);
        due("is(0)", x.is(0), 1);
    }

    // Promise 16
    private static void undo() {
        ClothesHorses x = new ClothesHorses();
        due("undo()", x.undo(), NONE);
        x.horse(1);
        x.piece(0, 1, 5);
        due("told things are no steps", x.undo(), NONE);
        x.peg(0, 0);
        x.piece(1, 2, 7);
        x.horse(9);
        x.peg(1, 1);
        x.sock(1, 4);
        x.wind(0, 9);
        x.hour(2);
        due("about(4)", x.about(4), 5);
        due("undo()", x.undo(), 4);
        due("is(0)", x.is(0), 1);
        due("is(2)", x.is(2), 7);
        due("undo()", x.undo(), 3);
        due("is(0)", x.is(0), 0);
        due("is(1)", x.is(1), 277);
        due("is(2)", x.is(2), 0);
        due("of(1, 1)", x.of(1, 1), 0);
        due("ofPiece(1, 2)", x.ofPiece(1, 2), 11);
        due("WIND stays", x.windAt(0), 9);
        due("undo()", x.undo(), 2);
        due("ofPiece(1, 2)", x.ofPiece(1, 2), 7);
        due("undo()", x.undo(), 1);
        due("ofPiece(1, 3)", x.ofPiece(1, 3), NONE);
        due("undo()", x.undo(), 0);
        due("ofPiece(0, 3)", x.ofPiece(0, 3), NONE);
        due("told since, as told: wet", x.ofPiece(1, 2), 7);
        due("told since, as told: place", x.ofPiece(1, 3), NONE);
        due("about(0)", x.about(0), 2);
        due("about(1)", x.about(1), 2);
        due("undo()", x.undo(), NONE);
        // Cells, ranks and the book.
        x = with(9, 1);
        x.hour(4);
        due("is(3)", x.is(3), 1);
        due("undo()", x.undo(), 3);
        due("of(0, 1)", x.of(0, 1), 9);
        due("of(0, 2)", x.of(0, 2), 0);
        due("of(1, 1)", x.of(1, 1), 6);
        due("book(-1, 0)", x.book(-1, 0), 0);
        due("wins(0)", x.wins(0), 0);
        // What is told beside the race stays.
        x.odds(0, 2);
        x.beat(0, 1, 3);
        x.see(1, 3);
        x.hour(1);
        x.undo();
        due("sure(1, 0)", x.sure(1, 0), 3);
        due("kings()", x.kings(), 1);
        due("about(5)", x.about(5), 1);
    }

    private static void undoForgets() {
        ClothesHorses x = with(1);
        x.piece(0, 1, 0);
        x.peg(0, 0);
        x.hour(29);
        due("about(4)", x.about(4), 30);
        x.hour(1);
        due("about(4)", x.about(4), 30);
        for (int left = 29; left >= 0; left--) {
            due("undo()", x.undo(), left);
        }
        due("the thirtieth ago", x.is(0), 0);
        due("pegging can't be taken back any more", x.ofPiece(0, 3), 0);
        due("undo()", x.undo(), NONE);
        x.hour(60);
        for (int left = 29; left >= 0; left--) {
            due("undo()", x.undo(), left);
        }
        due("is(0)", x.is(0), 30);
    }

    // Promise 17
    private static void ofHorses() {
        ClothesHorses x = with(5, 6);
        x.piece(0, 9, 10);
        x.piece(0, 1, 0);
        x.piece(0, 5, 4);
        x.peg(0, 0);
        x.peg(2, 1);
        due("of(0, 0)", x.of(0, 0), 5);
        due("of(0, 3)", x.of(0, 3), 1);
        due("of(1, 3)", x.of(1, 3), 4);
        due("of(0, 4)", x.of(0, 4), 19);
        due("of(1, 4)", x.of(1, 4), 9);
        due("weight below 20", x.of(0, 5), 2);
        due("and hinges above 5", x.of(1, 5), 3);
        x.peg(1, 0);
        due("of(0, 3)", x.of(0, 3), 3);
        due("of(0, 4)", x.of(0, 4), 20);
        due("weight 20", x.of(0, 5), 1);
        due("of(0, 6)", x.of(0, 6), 1);
        due("of(0, 7)", x.of(0, 7), NONE);
        due("of(0, -1)", x.of(0, -1), NONE);
        due("of(2, 0)", x.of(2, 0), NONE);
        due("of(-1, 0)", x.of(-1, 0), NONE);
        due("of(MIN, 1)", x.of(MIN, 1), NONE);
        x.sock(2, 11);
        due("of(1, 4)", x.of(1, 4), 20);
        due("of(1, 5)", x.of(1, 5), 2);
    }

    // Promise 18
    private static void ofPieces() {
        ClothesHorses x = with(1);
        x.piece(3, 8, 14);
        due("ofPiece(0, 0)", x.ofPiece(0, 0), 3);
        due("ofPiece(0, 1)", x.ofPiece(0, 1), 8);
        due("ofPiece(0, 2)", x.ofPiece(0, 2), 14);
        due("ofPiece(0, 3)", x.ofPiece(0, 3), NONE);
        due("ofPiece(0, 4)", x.ofPiece(0, 4), NONE);
        due("ofPiece(0, 5)", x.ofPiece(0, 5), -2);
        due("ofPiece(0, -1)", x.ofPiece(0, -1), -2);
        due("ofPiece(1, 0)", x.ofPiece(1, 0), -2);
        due("ofPiece(-1, 0)", x.ofPiece(-1, 0), -2);
        x.peg(0, 0);
        due("ofPiece(0, 3)", x.ofPiece(0, 3), 0);
        due("a fifth of 0 and 4", x.ofPiece(0, 4), 1);
        x.wind(0, 5);
        due("a fifth of 0 and 5", x.ofPiece(0, 4), 2);
        x.wind(0, 9);
        due("a fifth of 0 and 9", x.ofPiece(0, 4), 2);
        x.hour(1);
        due("WET less by 1 and a fifth of 7 and 9", x.ofPiece(0, 2), 10);
        due("WIND of its cell: a fifth of 7 and 4", x.ofPiece(0, 4), 3);
    }

    // Promise 19
    private static void is() {
        ClothesHorses x = with(9, 9);
        x.hour(2);
        due("is(0)", x.is(0), 2);
        due("is(1)", x.is(1), 12731);
        due("is(2)", x.is(2), 2);
        due("is(3)", x.is(3), 0);
        x.hour(2);
        due("is(3)", x.is(3), 2);
        due("is(4)", x.is(4), -2);
        due("is(-1)", x.is(-1), -2);
    }

    // Promise 21
    private static void books() {
        ClothesHorses x = with(1, 9, 6);
        due("book(-1, 0)", x.book(-1, 0), 0);
        due("book(0, 0)", x.book(0, 0), -2);
        x.hour(3);
        due("hour(1)", x.hour(1), 2);
        due("hour(2)", x.hour(2), 1);
        int[][] book = {{3, 1, 1}, {3, 2, 2}, {5, 0, 3}};
        due("book(-1, 9)", x.book(-1, 9), 3);
        for (int i = 0; i < 3; i++) {
            for (int what = 0; what < 3; what++) {
                due("book(" + i + ", " + what + ")", x.book(i, what), book[i][what]);
            }
        }
        due("book(3, 0)", x.book(3, 0), -2);
        due("book(-2, 0)", x.book(-2, 0), -2);
        due("book(0, 3)", x.book(0, 3), -2);
        due("book(0, -1)", x.book(0, -1), -2);
        x.start();
        x.hour(4);
        due("ranks begin anew", x.book(3, 2), 1);
        due("book(3, 0)", x.book(3, 0), 9);
    }

    private static void fullBooks() {
        ClothesHorses x = with(1, 6, 6, 6, 6);
        for (int race = 0; race < 7; race++) {
            x.hour(6);
            x.start();
        }
        due("the latest 30", x.book(-1, 0), 30);
        due("the eldest is of the second race", x.book(0, 0), 9);
        due("book(0, 1)", x.book(0, 1), 1);
        due("book(29, 0)", x.book(29, 0), 41);
        due("book(29, 1)", x.book(29, 1), 0);
        due("book(29, 2)", x.book(29, 2), 5);
        due("book(30, 0)", x.book(30, 0), -2);
        due("ledger(-1)", x.ledger(-1), 30);
        due("wins(1)", x.wins(1), 6);
        due("ledger(0)", x.ledger(0), 6);
        x.undo();
        for (int i = 0; i < 4; i++) {
            x.undo();
        }
        due("the race is half run", x.is(0), 38);
        due("the book is as it was: 30 of the first six races", x.book(0, 0), 3);
        due("book(-1, 0)", x.book(-1, 0), 30);
        due("book(29, 0)", x.book(29, 0), 35);
        x.hour(2);
        due("four came in, so four are forgotten", x.book(0, 1), 0);
        due("book(0, 0)", x.book(0, 0), 5);
    }

    private static void oddBooks() {
        // Two come in a race, three in the first: RANKS in the book are 1 2 3 1 2 1 2 ..
        ClothesHorses x = with(1, 6, 6);
        x.hour(6);
        for (int race = 1; race < 14; race++) {
            x.start();
            x.hour(4);
        }
        due("book(-1, 0)", x.book(-1, 0), 29);
        due("book(2, 2)", x.book(2, 2), 3);
        x.start();
        x.hour(4);
        due("book(-1, 0)", x.book(-1, 0), 30);
        for (int i = 0; i < 30; i++) {
            due("rank " + i, x.book(i, 2), i == 0 ? 2 : i == 1 ? 3 : 1 + i % 2);
            due("horse " + i, x.book(i, 1), i == 0 ? 2 : i == 1 ? 0 : 1 + i % 2);
            due("hour " + i, x.book(i, 0), i == 0 ? 3 : i == 1 ? 5 : 5 + i / 2 * 4);
        }
        due("undo()", x.undo(), 29);
        due("book(-1, 0)", x.book(-1, 0), 29);
        for (int i = 0; i < 29; i++) {
            due("rank " + i, x.book(i, 2), i < 3 ? 1 + i : 1 + (i + 1) % 2);
        }
    }

    // Promise 22
    private static void foretold() {
        ClothesHorses x = with(9, 1);
        x.piece(0, 1, 20);
        x.peg(0, 1);
        int[][] wrong = {{0, 0, 0}, {61, 0, 0}, {1, 3, 0}, {1, -1, 0}, {1, 0, 2}, {1, 0, -1}, {1, 1, 1}, {1, 1, -1},
            {1, 2, 2}, {MIN, 0, 0}};
        for (int[] w : wrong) {
            due("foretold(" + w[0] + ", " + w[1] + ", " + w[2] + ")", x.foretold(w[0], w[1], w[2]), NONE);
        }
        due("foretold(1, 0, 0)", x.foretold(1, 0, 0), 3);
        due("foretold(3, 0, 0)", x.foretold(3, 0, 0), 9);
        due("foretold(4, 0, 0)", x.foretold(4, 0, 0), 11);
        due("foretold(3, 2, 0)", x.foretold(3, 2, 0), 0);
        due("foretold(4, 2, 0)", x.foretold(4, 2, 0), 1);
        due("foretold(60, 2, 1)", x.foretold(60, 2, 1), 2);
        due("20 less 1 and a fifth of 7 and 4", x.foretold(1, 1, 0), 17);
        due("nothing is done: is(0)", x.is(0), 0);
        due("is(1)", x.is(1), 277);
        due("of(0, 1)", x.of(0, 1), 0);
        due("ofPiece(0, 2)", x.ofPiece(0, 2), 20);
        due("about(4)", x.about(4), 1);
        int cell = x.foretold(7, 0, 1);
        int wet = x.foretold(7, 1, 0);
        x.hour(7);
        due("it comes so: cell", x.of(1, 1), cell);
        due("it comes so: wet", x.ofPiece(0, 2), wet);
    }

    // Promise 23
    private static void winners() {
        ClothesHorses x = with(1, 9);
        due("3 cells an hour beat 2", x.winner(), 1);
        due("nothing is done", x.is(0), 0);
        x.hour(60);
        due("it has rank 1", x.winner(), 1);
        x = ruledBy("paces if hour<50 then 0 else 1 end;", 1);
        due("61 hours", x.winner(), NONE);
        x.hour(1);
        due("60 hours", x.winner(), 0);
        x = with(9, 9);
        due("of like ones the lowest comes in first", x.winner(), 0);
        x.piece(0, 9, 20);
        x.peg(0, 0);
        due("the other one", x.winner(), 1);
    }

    // Promise 24
    private static void packs() {
        ClothesHorses x = new ClothesHorses();
        x.piece(0, 5, 0);
        due("without horses", x.pack(1, NONE), -2);
        x.horse(1);
        due("pack(0, -1)", x.pack(0, NONE), -2);
        due("pack(2, -1)", x.pack(2, NONE), -2);
        due("pack(1, 1)", x.pack(1, 1), -2);
        due("pack(1, -2)", x.pack(1, -2), -2);
        due("pack(1, -1)", x.pack(1, NONE), 5);
        due("pack(1, 0)", x.pack(1, 0), 0);
        x.piece(0, 4, 0);
        x.piece(0, 3, 0);
        x.piece(0, 3, 0);
        x.piece(0, 3, 0);
        due("one horse", x.pack(5, NONE), 18);
        x.horse(1);
        due("5 4 and 3 3 3", x.pack(5, NONE), 9);
        int[] best = {0, 0, 1, 1, 1};
        for (int i = 0; i < 5; i++) {
            due("pack(5, " + i + ")", x.pack(5, i), best[i]);
        }
        x.horse(1);
        // 5, 4 3, 3 3 and 5 3, 4, 3 3 and others: 7; or 5, 4, .. 9; the least is 7.
        due("pack(5, -1) on three", x.pack(5, NONE), 7);
        int[] three = {0, 1, 1, 2, 2};
        for (int i = 0; i < 5; i++) {
            due("pack(5, " + i + ") on three", x.pack(5, i), three[i]);
        }
        x.sock(2, 6);
        due("WET weighs", x.pack(3, NONE), 9);
        due("pack(3, 1)", x.pack(3, 1), 0);
        due("pack(3, 2)", x.pack(3, 2), 1);
        x.peg(0, 2);
        x.peg(1, 2);
        due("those on horses aside", x.pack(3, 0), 0);
        while (x.piece(0, 9, 20) != NONE) {
            continue;
        }
        due("eight at most", x.pack(9, NONE), -2);
        due("pack(8, 8)", x.pack(8, 8), -2);
        // 5 4 9 3 3 29 29 29 on three horses: the 24 more go beside the 29s.
        due("pack(8, -1)", x.pack(8, NONE), 38);
        int[] eight = {0, 0, 1, 2, 2, 0, 1, 2};
        for (int i = 0; i < 8; i++) {
            due("pack(8, " + i + ")", x.pack(8, i), eight[i]);
        }
    }

    // Promises 25 and 26
    private static void sureBooks() {
        ClothesHorses x = new ClothesHorses();
        int[][] wrong = {{-1, 3}, {5, 3}, {0, 1}, {0, 21}, {MIN, 3}};
        for (int[] w : wrong) {
            due("odds(" + w[0] + ", " + w[1] + ")", x.odds(w[0], w[1]), false);
        }
        due("no horse", x.sure(1, NONE), NONE);
        due("odds, there or not", x.odds(4, 20), true);
        x.horse(1);
        due("sure(0, -1)", x.sure(0, NONE), NONE);
        due("sure(21, -1)", x.sure(21, NONE), NONE);
        due("sure(1, 1)", x.sure(1, 1), NONE);
        due("sure(1, -2)", x.sure(1, -2), NONE);
        due("3 * 10 is 20 more than 10", x.sure(20, NONE), 10);
        due("sure(19, 0)", x.sure(19, 0), 10);
        x.horse(1);
        x.horse(1);
        due("three at odds of 3 can't be", x.sure(1, NONE), NONE);
        x.odds(0, 2);
        x.odds(1, 4);
        x.odds(2, 5);
        // 1/2 and 1/4 and 1/5 are 19/20: 19 stakes that bring 20.
        due("sure(1, -1)", x.sure(1, NONE), 19);
        due("sure(1, 0)", x.sure(1, 0), 10);
        due("sure(1, 1)", x.sure(1, 1), 5);
        due("sure(1, 2)", x.sure(1, 2), 4);
        x.horse(1);
        x.odds(3, 20);
        due("that is all of it", x.sure(1, NONE), NONE);
        // 1/2 + 1/3 + 1/7 is 41/42: gain 10 would take 41 times as much and more.
        x = with(1, 1, 1);
        x.odds(0, 2);
        x.odds(1, 3);
        x.odds(2, 7);
        due("41 by 21, 14 and 6", x.sure(1, NONE), 41);
        due("492 by 252, 168 and 72", x.sure(12, NONE), 492);
        due("sure(12, 2)", x.sure(12, 2), 72);
        due("more than 500", x.sure(13, NONE), NONE);
        due("of one horse none", x.sure(13, 0), NONE);
        x = with(1, 1, 1, 1);
        int[] odds = {2, 4, 9, 10};
        int[] stakes = {260, 130, 58, 52};
        for (int i = 0; i < 4; i++) {
            x.odds(i, odds[i]);
        }
        due("just 500", x.sure(20, NONE), 500);
        for (int i = 0; i < 4; i++) {
            due("that bring 520: sure(20, " + i + ")", x.sure(20, i), stakes[i]);
        }
        x = with(1, 1, 1, 1, 1);
        int[] more = {2, 5, 6, 14, 18};
        for (int i = 0; i < 5; i++) {
            x.odds(i, more[i]);
        }
        due("it would be 501", x.sure(3, NONE), NONE);
    }

    // Promises 27 and 28
    private static void rankings() {
        ClothesHorses x = new ClothesHorses();
        int[][] wrong = {{0, 0, 1}, {-1, 0, 1}, {5, 0, 1}, {0, 5, 1}, {0, -1, 1}, {0, 1, -1}, {0, 1, 100}, {MIN, MAX, 0}};
        for (int[] w : wrong) {
            due("beat(" + w[0] + ", " + w[1] + ", " + w[2] + ")", x.beat(w[0], w[1], w[2]), false);
        }
        due("there or not", x.beat(4, 3, 99), true);
        due("those there are", x.ranking(NONE), 0);
        x.horse(1);
        due("ranking(0)", x.ranking(0), 0);
        due("ranking(1)", x.ranking(1), -2);
        due("ranking(-2)", x.ranking(-2), -2);
        x = with(1, 1, 1, 1);
        for (int i = 0; i < 4; i++) {
            due("of like ones the lowest", x.ranking(i), i);
        }
        // A ring 0, 1, 2 with 1 -> 2 the weakest, and 3 ahead of 0 once.
        x.beat(0, 1, 3);
        x.beat(1, 2, 2);
        x.beat(2, 0, 4);
        x.beat(3, 0, 1);
        due("ranking(-1)", x.ranking(NONE), 2);
        int[] order = {2, 3, 0, 1};
        for (int i = 0; i < 4; i++) {
            due("ranking(" + i + ")", x.ranking(i), order[i]);
        }
        due("ranking(4)", x.ranking(4), -2);
        x.beat(0, 3, 1);
        due("both ways", x.ranking(NONE), 3);
        due("ranking(1)", x.ranking(1), 0);
        due("told anew, not more", x.beat(1, 2, 99), true);
        due("now 0 beats 1 in vain", x.ranking(NONE), 4);
        due("ranking(0)", x.ranking(0), 1);
    }

    // Promises 29 and 30
    private static void kingsAndRings() {
        ClothesHorses x = with(1);
        due("one is king", x.kings(), 1);
        x.horse(1);
        due("like ones are no kings", x.kings(), 0);
        x.beat(0, 1, 2);
        x.beat(1, 0, 2);
        due("as often each", x.kings(), 0);
        x.beat(0, 1, 3);
        due("more often", x.kings(), 1);
        x = with(1, 1, 1, 1);
        x.beat(0, 1, 1);
        x.beat(1, 2, 1);
        due("2 by 1, but 3 by none", x.kings(), 0);
        x.beat(2, 3, 1);
        due("3 is too far for 0", x.kings(), 0);
        x.beat(3, 0, 1);
        due("a ring of four: each is too far from one", x.kings(), 0);
        due("a ring of four has none of three", x.rings(), 0);
        x.beat(0, 2, 1);
        due("0 has 1, 2 and by it 3; 2 has 3, by it 0, but not 1; 3 has 0, by it 1 and 2", x.kings(), 9);
        due("0, 2, 3", x.rings(), 1);
        x.beat(3, 1, 1);
        due("rings()", x.rings(), 2);
        due("1 has 2, by it 3, but not 0", x.kings(), 13);
        x.beat(2, 0, 1);
        due("0 and 2 are like", x.rings(), 1);
        x = with(1, 1, 1, 1, 1);
        for (int i = 0; i < 5; i++) {
            x.beat(i, (i + 1) % 5, 1);
            x.beat(i, (i + 2) % 5, 1);
        }
        due("all are kings", x.kings(), 31);
        due("rings of five", x.rings(), 5);
        x = with(1, 1);
        x.beat(0, 2, 1);
        x.beat(2, 1, 1);
        due("what isn't there doesn't count", x.kings(), 0);
        x.beat(1, 0, 1);
        due("rings()", x.rings(), 0);
    }

    // Promise 31
    private static void heats() {
        ClothesHorses x = with(1);
        due("heats(2, -1) of one", x.heats(2, NONE), -2);
        x.horse(1);
        due("heats(2, -1) of two", x.heats(2, NONE), 1);
        due("heats(1, -1)", x.heats(1, NONE), -2);
        due("heats(3, -1)", x.heats(3, NONE), -2);
        x.horse(1);
        x.horse(1);
        int[] fourByThree = {7, 11, 13};
        due("heats(3, -1) of four", x.heats(3, NONE), 3);
        for (int i = 0; i < 3; i++) {
            due("heats(3, " + i + ") of four", x.heats(3, i), fourByThree[i]);
        }
        due("heats(4, -1) of four", x.heats(4, NONE), 1);
        due("heats(4, 0) of four", x.heats(4, 0), 15);
        x.horse(1);
        int[] pairs = {3, 5, 6, 9, 10, 12, 17, 18, 20, 24};
        due("heats(2, -1)", x.heats(2, NONE), 10);
        for (int i = 0; i < 10; i++) {
            due("heats(2, " + i + ")", x.heats(2, i), pairs[i]);
        }
        due("heats(2, 10)", x.heats(2, 10), -2);
        due("heats(2, -2)", x.heats(2, -2), -2);
        // 0 1 2, 0 1 3 leave 2 3 and all with 4: 2 3 4 and 0 1 4.
        int[] three = {7, 11, 19, 28};
        due("heats(3, -1)", x.heats(3, NONE), 4);
        for (int i = 0; i < 4; i++) {
            due("heats(3, " + i + ")", x.heats(3, i), three[i]);
        }
        int[] four = {15, 23, 27};
        due("heats(4, -1)", x.heats(4, NONE), 3);
        for (int i = 0; i < 3; i++) {
            due("heats(4, " + i + ")", x.heats(4, i), four[i]);
        }
        due("heats(4, 3)", x.heats(4, 3), -2);
        due("heats(5, -1)", x.heats(5, NONE), -2);
    }

    // Promises 32 to 35
    private static void strengths() {
        ClothesHorses x = new ClothesHorses();
        int[][] wrong = {{-1, 1}, {5, 1}, {0, 0}, {0, 21}, {MAX, 1}};
        for (int[] w : wrong) {
            due("strength(" + w[0] + ", " + w[1] + ")", x.strength(w[0], w[1]), false);
        }
        due("there or not", x.strength(4, 20), true);
        due("first(0) of none", x.first(0, false), NONE);
        x.horse(1);
        due("first(0)", x.first(0, false), 1);
        due("first(0) low", x.first(0, true), 1);
        due("two(0) of one", x.two(0, false), NONE);
        due("order(0, 0)", x.order(0, 0, true), NONE);
        x.horse(1);
        due("first of like ones", x.first(1, true), 2);
        due("two of two", x.two(1, false), 1);
        due("two of two low", x.two(1, true), 1);
        due("order of two", x.order(1, 0, true), 2);
        x.horse(1);
        x.strength(0, 6);
        x.strength(1, 3);
        x.strength(2, 1);
        due("first(0)", x.first(0, false), 3);
        due("first(0) low", x.first(0, true), 5);
        due("first(2)", x.first(2, false), 1);
        due("first(2) low", x.first(2, true), 10);
        due("first(3)", x.first(3, false), NONE);
        due("first(-1)", x.first(-1, true), NONE);
        due("6/10 * 3/4", x.order(0, 1, false), 9);
        due("low", x.order(0, 1, true), 20);
        due("3/10 * 6/7", x.order(1, 0, false), 9);
        due("low", x.order(1, 0, true), 35);
        due("order(0, 3)", x.order(0, 3, false), NONE);
        due("order(3, 0)", x.order(3, 0, false), NONE);
        due("order(1, 1)", x.order(1, 1, false), NONE);
        due("order(-1, 1)", x.order(-1, 1, false), NONE);
        // 1/10 + 6/10 * 1/4 + 3/10 * 1/7 = 28/280 + 42/280 + 12/280
        due("two(2)", x.two(2, false), 41);
        due("two(2) low", x.two(2, true), 140);
        due("two(3)", x.two(3, false), NONE);
        due("two(-1)", x.two(-1, false), NONE);
        x.hour(60);
        due("who is in doesn't matter", x.first(0, true), 5);
        x = with(1, 1, 1, 1, 1);
        int[] strengths = {20, 19, 17, 13, 20};
        long all = 89;
        long lower = all;
        for (int i = 0; i < 5; i++) {
            x.strength(i, strengths[i]);
            lower *= i == 3 ? 1 : all - strengths[i];
        }
        long upper = 13 * lower / all;
        for (int i = 0; i < 5; i++) {
            upper += i == 3 ? 0 : 13L * strengths[i] * (lower / all / (all - strengths[i]));
        }
        due("in lowest terms", x.two(3, false) * lower, x.two(3, true) * upper);
        due("two(3, false)", x.two(3, false), upper / gcd(upper, lower));
        due("two(3, true)", x.two(3, true), lower / gcd(upper, lower));
    }

    private static long gcd(long a, long b) {
        return b == 0 ? a : gcd(b, a % b);
    }

    // Promises 36 and 37
    private static void nobbled() {
        ClothesHorses x = with(6);
        int[][] wrong = {{0, 0}, {13, 0}, {-2, 0}, {1, -1}, {1, 12}, {MIN, MAX}};
        for (int[] w : wrong) {
            due("see(" + w[0] + ", " + w[1] + ")", x.see(w[0], w[1]), -2);
        }
        for (int i = 1; i <= 6; i++) {
            due("see(12, 11)", x.see(12, 11), i);
        }
        due("the seventh", x.see(1, 3), -2);
        due("about(5)", x.about(5), 6);
        due("see(-1, 99)", x.see(NONE, 99), 0);
        due("about(5)", x.about(5), 0);
        due("nobbled(1, 0)", x.nobbled(1, 0), -2);
        due("nobbled(-1, 0)", x.nobbled(-1, 0), -2);
        due("nobbled(0, 3)", x.nobbled(0, 3), -2);
        due("nobbled(0, -1)", x.nobbled(0, -1), -2);
        due("nothing seen", x.nobbled(0, 0), 30);
        due("nothing seen", x.nobbled(0, 1), 1);
        due("nothing seen", x.nobbled(0, 2), 1);
        // Dry weights of 9 and 9: a sock of 2 makes it 20, and paces are 2, not 3.
        x.piece(0, 9, 0);
        x.piece(0, 9, 0);
        x.peg(0, 0);
        x.peg(1, 0);
        x.see(1, 3);
        x.see(3, 7);
        due("3, 5, 7: t is 1, sock is 2 .. 5", x.nobbled(0, 0), 4);
        due("without it is 9", x.nobbled(0, 1), 0);
        due("the lowest", x.nobbled(0, 2), 12);
        x.see(NONE, 0);
        x.see(3, 9);
        due("t from 3 on, or sock 1", x.nobbled(0, 0), 3 + 3 * 5);
        due("without", x.nobbled(0, 1), 1);
        due("the lowest", x.nobbled(0, 2), 1);
        x.see(2, 4);
        due("4 and then 9 can't be", x.nobbled(0, 0), 0);
        due("none", x.nobbled(0, 2), NONE);
        // It begins in cell 0, wherever it is, and even if it is in.
        x.hour(20);
        x.see(NONE, 0);
        x.see(1, 3);
        due("from cell 0", x.nobbled(0, 1), 1);
        due("nothing is done", x.of(0, 1), 11);
        // Pieces dry ahead of each going on: 9 + 12, then 20, 19: paces 2, 3.
        x = with(6);
        x.piece(0, 9, 12);
        x.peg(0, 0);
        x.see(1, 2);
        x.see(2, 5);
        due("drying", x.nobbled(0, 1), 1);
        due("t 0 and sock 1 would be 21, 20", x.nobbled(0, 2), 21);
        due("t 2 .. 5, any sock", x.nobbled(0, 0), 20);
        due("it is as wet as before", x.ofPiece(0, 2), 12);
        // The sock is for paces alone, not for dries.
        x = ruledBy("dries if load>5 then 9 else 0 end;paces load;", 1);
        x.piece(0, 1, 1);
        x.peg(0, 0);
        x.see(1, 3);
        due("load 2 and a sock", x.nobbled(0, 0), 5);
        due("nobbled(0, 2)", x.nobbled(0, 2), 1);
        due("nobbled(0, 1)", x.nobbled(0, 1), 0);
    }

    // Promise 38
    private static void dries() {
        ClothesHorses x = with(1, 1);
        due("dry(2)", x.dry(2), NONE);
        due("dry(-1)", x.dry(-1), NONE);
        due("nothing on it", x.dry(0), 0);
        x.piece(0, 1, 0);
        x.peg(0, 0);
        due("dry", x.dry(0), 0);
        x.piece(0, 1, 20);
        x.peg(1, 0);
        due("by 1 an hour", x.dry(0), 20);
        x.wind(0, 9);
        due("by 2 an hour", x.dry(0), 10);
        due("nothing is done", x.ofPiece(1, 2), 20);
        due("the other one", x.dry(1), 0);
        Checks.text(x, "dries 0;");
        x.by(0);
        due("never", x.dry(0), NONE);
        // Each hour the load is as it is then: 21, 20, .. 7 dry by 1, and then not at all.
        Checks.text(x, "dries if load>7 then 1 else 0 end;");
        x.by(1);
        due("not in 60", x.dry(0), NONE);
        Checks.text(x, "dries if load>7 then 1 else 5 end;");
        x.by(2);
        due("15 by 1 and one by 5", x.dry(0), 16);
        x = ruledBy("dries if stuff=0 then 1 else 20 end;", 1);
        x.piece(0, 1, 20);
        x.peg(0, 0);
        due("20", x.dry(0), 20);
        x = ruledBy("dries if who=0 then if tenth(load)>0 then 1 else 0 end else 0 end;", 1);
        x.piece(0, 9, 20);
        x.piece(0, 9, 20);
        x.piece(0, 9, 20);
        x.peg(0, 0);
        x.peg(1, 0);
        x.peg(2, 0);
        due("all three at once", x.dry(0), 20);
        // One behind the other: the last piece first, the first one last.
        for (int wet = 0; wet <= 1; wet++) {
            x = ruledBy("dries if weight=9 or weight=1 and load<=75 or weight=2 and load<=55 or weight=3 and load<=35"
                + " then 1 else 0 end;", 1);
            x.piece(0, 3, 20);
            x.piece(0, 2, 20);
            x.piece(0, 1, 20);
            x.piece(0, 9, wet);
            for (int i = 0; i < 4; i++) {
                x.peg(i, 0);
            }
            due(60 + wet + " hours", x.dry(0), wet == 0 ? 60 : NONE);
        }
        // SUN and HOUR are as now.
        x = ruledBy("dries hour;paces 0;sheds 0;", 1);
        x.piece(0, 1, 20);
        x.peg(0, 0);
        due("HOUR 0", x.dry(0), NONE);
        x.hour(1);
        due("HOUR 1", x.dry(0), 20);
        due("exactly 60 can't be, 20 can", x.ofPiece(0, 2), 20);
    }

    // Promises 39 and 40
    private static void whoseLaw() {
        ClothesHorses x = with(1);
        due("said(0, 1)", x.said(0, 1), -2);
        x.piece(1, 2, 20);
        x.piece(2, 3, 20);
        due("said(2, 1)", x.said(2, 1), -2);
        due("said(-2, 1)", x.said(-2, 1), -2);
        due("said(0, -1)", x.said(0, -1), -2);
        due("said(0, 21)", x.said(0, 21), -2);
        due("no texts", x.whose(), 0);
        Checks.text(x, "dries stuff;");
        Checks.text(x, "dries weight-1;");
        Checks.text(x, "paces 1;");
        Checks.text(x, "dries 1;");
        due("nothing said", x.whose(), 15);
        due("said(0, 1)", x.said(0, 1), 1);
        due("on the grass", x.whose(), 15);
        due("said(1, 2)", x.said(1, 2), 2);
        x.peg(0, 0);
        due("1 by all; without a law it is 1, too", x.whose(), 15);
        x.peg(1, 0);
        due("1 and 2", x.whose(), 3);
        x.by(3);
        due("whoever rules", x.whose(), 3);
        x.wind(0, 9);
        due("said(0, 1)", x.said(0, 1), 3);
        due("whose()", x.whose(), 3);
        due("said(-1, 77)", x.said(NONE, 77), 0);
        due("about(6)", x.about(6), 0);
        due("said(1, 2)", x.said(1, 2), 1);
        due("without a law it is 2 now", x.whose(), 7);
        for (int i = 2; i <= 8; i++) {
            due("said(1, 20)", x.said(1, 20), i);
        }
        due("the ninth", x.said(1, 0), -2);
        due("about(6)", x.about(6), 8);
        due("nobody's", x.whose(), 0);
    }

    // Promises 41 to 44
    private static void atAGlance() {
        ClothesHorses x = with(1, 9, 9);
        due("in cell 0", x.lead(), NONE);
        due("nothing on any", x.heaviest(), NONE);
        due("wettest of none", x.wettest(), NONE);
        due("grass of none", x.grass(), 0);
        x.hour(1);
        due("of like ones the lowest", x.lead(), 1);
        x.hour(3);
        due("those that are in aside", x.lead(), 0);
        x.hour(60);
        due("all in", x.lead(), NONE);
        x.start();
        due("started", x.lead(), NONE);
        x.piece(0, 3, 0);
        x.piece(0, 1, 2);
        x.piece(0, 1, 2);
        due("grass()", x.grass(), 7);
        due("wettest()", x.wettest(), 1);
        due("on the grass they weigh nothing", x.heaviest(), NONE);
        x.peg(1, 1);
        due("grass()", x.grass(), 5);
        due("heaviest()", x.heaviest(), 1);
        x.peg(0, 0);
        due("of like ones the lowest", x.heaviest(), 0);
        x.sock(1, 1);
        due("WET weighs", x.heaviest(), 1);
        x.sock(2, 2);
        due("wettest()", x.wettest(), 2);
        x.peg(2, 2);
        due("grass()", x.grass(), 0);
        due("heaviest()", x.heaviest(), 2);
    }

    // Promises 45 and 46
    private static void winsAndLedger() {
        ClothesHorses x = with(1, 9);
        due("wins(0)", x.wins(0), 0);
        due("ledger(-1)", x.ledger(NONE), 0);
        due("wins(2)", x.wins(2), NONE);
        due("wins(-1)", x.wins(-1), NONE);
        due("ledger(2)", x.ledger(2), -2);
        due("ledger(-2)", x.ledger(-2), -2);
        x.hour(6);
        x.start();
        x.hour(4);
        due("wins(1)", x.wins(1), 2);
        due("wins(0)", x.wins(0), 0);
        due("ledger(0)", x.ledger(0), 1);
        due("ledger(1)", x.ledger(1), 2);
        due("ledger(-1)", x.ledger(NONE), 3);
    }

    // Promises 47 and 48
    private static void images() {
        ClothesHorses x = with(9, 1);
        x.piece(0, 1, 9);
        x.wind(3, 7);
        Checks.text(x, "paces 2;");
        x.by(0);
        x.peg(0, 0);
        x.hour(6);
        x.odds(0, 4);
        x.odds(1, 4);
        x.beat(0, 1, 3);
        x.strength(0, 3);
        x.see(1, 2);
        x.said(0, 1);
        due("image()", x.image(), 6);
        int cell = x.of(0, 1);
        int wet = x.ofPiece(0, 2);
        int now = x.is(1);
        int booked = x.book(-1, 0);
        x.horse(2);
        x.piece(1, 1, 1);
        x.wind(3, 1);
        Checks.text(x, "paces 0;");
        Checks.text(x, "paces");
        x.by(1);
        x.odds(0, 3);
        x.beat(1, 0, 9);
        x.strength(0, 9);
        x.see(2, 2);
        x.said(NONE, 0);
        x.sock(0, 20);
        x.start();
        x.hour(40);
        x.feed(1, 2, 3, 4, 5);
        for (int i = 0; i < 2; i++) {
            due("back()", x.back(), 6);
            due("about(0)", x.about(0), 2);
            due("about(1)", x.about(1), 1);
            due("about(2)", x.about(2), 1);
            due("about(3)", x.about(3), 0);
            due("about(4)", x.about(4), 7);
            due("about(5)", x.about(5), 1);
            due("about(6)", x.about(6), 1);
            due("the tape stays", x.about(7), 20);
            due("the fault stays", x.fault(1), 5);
            due("is(1)", x.is(1), now);
            due("of(0, 1)", x.of(0, 1), cell);
            due("ofPiece(0, 2)", x.ofPiece(0, 2), wet);
            due("book(-1, 0)", x.book(-1, 0), booked);
            due("windAt(3)", x.windAt(3), 7);
            due("sure(2, -1)", x.sure(2, NONE), 2);
            due("kings()", x.kings(), 1);
            due("first(0, true)", x.first(0, true), 4);
            due("whose()", x.whose() >= 0, true);
            due("undo()", x.undo(), 6);
            due("is(0)", x.is(0), 5);
            x.hour(60);
            due("is(0)", x.is(0), 65);
        }
        due("image() behind 65", x.image(), 65);
        due("undo()", x.undo(), 29);
        due("back()", x.back(), 65);
        due("about(4)", x.about(4), 30);
        due("undo()", x.undo(), 29);
        due("is(0)", x.is(0), 64);
    }

    // Promise 49
    private static void about() {
        ClothesHorses x = with(1, 2, 3);
        x.piece(0, 1, 1);
        x.piece(0, 1, 1);
        Checks.text(x, "start;");
        Checks.text(x, "start;");
        x.by(1);
        x.hour(5);
        x.see(1, 1);
        x.said(1, 1);
        x.said(0, 1);
        x.feed(1, 1, 1, 1, 1);
        int[] want = {3, 2, 2, 1, 5, 1, 2, 20};
        for (int what = 0; what < 8; what++) {
            due("about(" + what + ")", x.about(what), want[what]);
        }
        due("about(8)", x.about(8), -2);
        due("about(-1)", x.about(-1), -2);
        due("about(MIN)", x.about(MIN), -2);
    }
}
