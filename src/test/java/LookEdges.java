/** Promises 17 to 19, 21, 41 to 46 and 49: what is, and what was written down. */
final class LookEdges extends Edges {
    @Sentence(promise = 17, says = "Of a HORSE: 0 HINGES, 1 its CELL, 2 RANK (0: not in), 3 PIECES on it (bits), 4 weight, 5 paces now, 6 sheds now.")
    void ofAnEmptyAndOfAFullHorse() {
        ClothesHorses x = ruled("paces 2;sheds 0;dries 0;", 1, 9);
        for (int i = 0; i < 10; i++) {
            x.piece(3, 9, 20);
            x.peg(i, 1);
        }
        int[] empty = {1, 0, 0, 0, 0, 2, 0};
        int[] full = {9, 0, 0, 1023, 290, 2, 0};
        for (int what = 0; what <= 6; what++) {
            due("of(0, " + what + ")", x.of(0, what), empty[what]);
            due("of(1, " + what + ")", x.of(1, what), full[what]);
        }
        x.hour(6);
        due("of(0, 1)", x.of(0, 1), 11);
        due("of(0, 2)", x.of(0, 2), 1);
        due("of(1, 1)", x.of(1, 1), 11);
        due("of(1, 2)", x.of(1, 2), 0);
    }

    @Sentence(promise = 17, says = "NONE for others.")
    void ofNoHorse() {
        ClothesHorses none = new ClothesHorses();
        each("of", NONE, a -> none.of(a[0], a[1]), of(0, 0), of(-1, 0), of(4, 6));
        ClothesHorses x = with(1, 2);
        each("of", NONE, a -> x.of(a[0], a[1]), of(0, 7), of(0, -1), of(0, MIN), of(0, MAX), of(2, 0), of(2, 5), of(-1, 0),
            of(-1, 6), of(4, 0), of(5, 1), of(MIN, 2), of(MAX, 3), of(2, 7));
    }

    @Sentence(promise = 17, says = "weight of a HORSE: WEIGHT and WET of all PIECES on it together.")
    void weightOfNoneOneAndMany() {
        ClothesHorses x = with(1, 1);
        due("nothing on it", x.of(0, 4), 0);
        x.piece(0, 1, 0);
        x.piece(0, 9, 20);
        x.piece(0, 5, 5);
        x.peg(0, 0);
        due("WEIGHT 1, dry", x.of(0, 4), 1);
        x.peg(1, 0);
        due("of(0, 4)", x.of(0, 4), 30);
        due("the other one has none of it", x.of(1, 4), 0);
        x.sock(0, 7);
        due("of(0, 4)", x.of(0, 4), 37);
        x.sock(2, 7);
        due("what is on the grass weighs nothing", x.of(0, 4), 37);
    }

    @Sentence(promise = 18, says = "Of a PIECE: 0 STUFF, 1 WEIGHT, 2 WET, 3 the HORSE it is on (NONE: on the grass), 4 dries now (NONE: on the grass).")
    void ofAPieceOnTheGrassAndOnAHorse() {
        ClothesHorses x = with(1, 1, 1, 1, 1);
        for (int i = 0; i < 10; i++) {
            x.piece(i % 4, 1 + i % 9, 11 + i);
        }
        for (int i = 0; i < 10; i += 9) {
            int[] grass = {i % 4, 1 + i % 9, 11 + i, NONE, NONE};
            for (int what = 0; what <= 4; what++) {
                due("ofPiece(" + i + ", " + what + ")", x.ofPiece(i, what), grass[what]);
            }
            due("peg(" + i + ", 4)", x.peg(i, 4), true);
            due("ofPiece(" + i + ", 3)", x.ofPiece(i, 3), 4);
            due("ofPiece(" + i + ", 4)", x.ofPiece(i, 4), 1);
        }
        rule(x, "dries 0;");
        due("dries of 0 aren't none", x.ofPiece(9, 4), 0);
        due("on the grass", x.ofPiece(5, 4), NONE);
    }

    @Sentence(promise = 18, says = "-2 for others.")
    void ofNoPiece() {
        ClothesHorses none = with(1);
        each("ofPiece", OTHERS, a -> none.ofPiece(a[0], a[1]), of(0, 0), of(-1, 0), of(9, 4));
        ClothesHorses x = with(1);
        x.piece(0, 1, 1);
        each("ofPiece", OTHERS, a -> x.ofPiece(a[0], a[1]), of(0, 5), of(0, -1), of(0, MIN), of(0, MAX), of(1, 0), of(1, 3),
            of(-1, 0), of(-1, 4), of(9, 2), of(10, 0), of(MIN, 0), of(MAX, 0));
    }

    @Sentence(promise = 19, says = "0 HOUR, 1 X, 2 SUN, 3 how many are in.")
    void whatIs() {
        ClothesHorses x = with(9, 9, 9, 9, 9);
        x.hour(4);
        due("is(0)", x.is(0), 4);
        due("is(1)", x.is(1), drawn(277, 4));
        due("is(2)", x.is(2), drawn(277, 3) % 10);
        due("all are in: is(3)", x.is(3), 5);
    }

    @Sentence(promise = 19, says = "SUN 0 .. 9 (at first 0).")
    void theFirstSun() {
        due("is(2)", new ClothesHorses().is(2), 0);
        ClothesHorses x = new ClothesHorses();
        for (int i = 0; i < 200; i++) {
            x.hour(1);
            due("SUN within 0 .. 9", x.is(2) >= 0 && x.is(2) <= 9, true);
        }
    }

    @Sentence(promise = 19, says = "HOUR 0 .. 9999 (at first 0).")
    void theFirstAndTheLastHour() {
        ClothesHorses x = new ClothesHorses();
        due("is(0)", x.is(0), 0);
        passTo(x, 9999);
        due("is(0)", x.is(0), 9999);
        due("hour(1)", x.hour(1), NONE);
        due("is(0)", x.is(0), 9999);
    }

    @Sentence(promise = 19, says = "X: at first 277.")
    void theFirstX() {
        ClothesHorses x = with(1, 2);
        x.piece(0, 1, 1);
        x.peg(0, 0);
        x.start();
        due("is(1)", x.is(1), 277);
        due("is(3)", x.is(3), 0);
    }

    @Sentence(promise = 19, says = "-2 for others.")
    void whatIsNot() {
        ClothesHorses x = new ClothesHorses();
        each("is", OTHERS, a -> x.is(a[0]), ones(-1, 4, -2, 5, MIN, MAX));
    }

    @Sentence(promise = 21, says = "BOOK: how many (i NONE); the i-th, from the eldest on: 0 HOUR, 1 HORSE, 2 RANK.")
    void fromTheEldestOn() {
        ClothesHorses x = with(1, 9, 6);
        due("book(NONE, 0)", x.book(NONE, 0), 0);
        due("hour(6)", x.hour(6), 3);
        int[][] book = {{3, 1, 1}, {3, 2, 2}, {5, 0, 3}};
        for (int what = 0; what <= 2; what++) {
            due("book(NONE, " + what + ")", x.book(NONE, what), 3);
            for (int i = 0; i < 3; i++) {
                due("book(" + i + ", " + what + ")", x.book(i, what), book[i][what]);
            }
        }
    }

    @Sentence(promise = 21, says = "BOOK (the latest 30 that came in): HOUR, HORSE, RANK.")
    void theLatestThirty() {
        // One of five comes in each fifth HOUR or so: 29, 30 and 31 of them.
        ClothesHorses x = ruled("paces if who=0 then 3 else 0 end;", 1, 1);
        for (int came = 1; came <= 33; came++) {
            due("hour(4)", x.hour(4), 1);
            x.start();
            int kept = Math.min(30, came);
            due("book(NONE, 0)", x.book(NONE, 0), kept);
            due("the eldest", x.book(0, 0), (came - kept) * 4 + 3);
            due("the latest", x.book(kept - 1, 0), came * 4 - 1);
            due("none behind it", x.book(kept, 0), OTHERS);
        }
        for (int i = 0; i < 30; i++) {
            due("book(" + i + ", 0)", x.book(i, 0), (i + 3) * 4 + 3);
            due("book(" + i + ", 1)", x.book(i, 1), 0);
            due("book(" + i + ", 2)", x.book(i, 2), 1);
        }
    }

    @Sentence(promise = 21, says = "BOOK (the latest 30 that came in): HOUR, HORSE, RANK.")
    void theEldestIsForgottenWhole() {
        // HORSES 2, 1 and 0 come in by turns, 3 a race; of 33 the first race is forgotten, of 31 its first HORSE.
        ClothesHorses x = ruled("paces 1+who;", 1, 1, 1);
        for (int race = 0; race < 10; race++) {
            x.hour(11);
            x.start();
        }
        for (int forgotten = 0; forgotten <= 3; forgotten++) {
            due("book(NONE, 0)", x.book(NONE, 0), 30);
            for (int i = 0; i < 30; i++) {
                int came = i + forgotten;
                due("book(" + i + ", 0)", x.book(i, 0), came / 3 * 11 + of(3, 5, 10)[came % 3]);
                due("book(" + i + ", 1)", x.book(i, 1), 2 - came % 3);
                due("book(" + i + ", 2)", x.book(i, 2), came % 3 + 1);
            }
            due("is(0)", x.is(0), 110 + of(0, 4, 6, 11)[forgotten]);
            x.hour(of(4, 2, 5, 1)[forgotten]);
        }
    }

    @Sentence(promise = 21, says = "-2 if there is none such, and for others.")
    void notInTheBook() {
        ClothesHorses none = with(9);
        each("book", OTHERS, a -> none.book(a[0], a[1]), of(0, 0), of(0, 1), of(0, 2), of(1, 0), of(-2, 0), of(MIN, 0), of(MAX, 0));
        none.hour(4);
        each("book", OTHERS, a -> none.book(a[0], a[1]), of(1, 0), of(29, 0), of(30, 0), of(-2, 0), of(0, 3), of(0, -1), of(0, MIN),
            of(0, MAX), of(MIN, 0), of(MAX, 0));
        due("book(0, 0)", none.book(0, 0), 3);
    }

    @Sentence(promise = 41, says = "THE LEADER.")
    void theLeaderOfSome() {
        ClothesHorses x = ruled("paces who;", 1, 1, 1, 1);
        x.hour(1);
        due("lead()", x.lead(), 3);
        x.hour(2);
        due("in CELL 9", x.lead(), 3);
        x.hour(1);
        due("HORSE 3 is in", x.lead(), 2);
    }

    @Sentence(promise = 41, says = "THE LEADER: the HORSE in the greatest CELL (above 0), not in; of like ones the lowest; none.")
    void aLeaderInTheFirstCellButOne() {
        ClothesHorses x = ruled("paces if who=1 then 1 else 0 end;", 1, 1, 1);
        x.hour(1);
        due("CELL 1", x.lead(), 1);
        ClothesHorses y = ruled("paces 3-who;", 1, 1, 1, 1);
        y.hour(1);
        due("CELLS 3, 2, 1 and 0", y.lead(), 0);
    }

    @Sentence(promise = 41, says = "NONE: none.")
    void noLeader() {
        ClothesHorses none = new ClothesHorses();
        due("without HORSES", none.lead(), NONE);
        ClothesHorses x = with(9, 9);
        due("all in CELL 0", x.lead(), NONE);
        x.hour(4);
        due("all are in", x.lead(), NONE);
        x.start();
        due("STARTED", x.lead(), NONE);
    }

    @Sentence(promise = 41, says = "THE LEADER: the HORSE in the greatest CELL (above 0), not in; of like ones the lowest; none.")
    void likeLeaders() {
        ClothesHorses x = ruled("paces if who=0 then 0 else if who=4 then 3 else 1 end end;dries 0;sheds 0;", 1, 1, 1, 1, 1);
        x.piece(0, 1, 1);
        x.peg(0, 2);
        x.hour(1);
        due("CELL 3", x.lead(), 4);
        x.hour(3);
        due("HORSE 4 is in; 1, 2 and 3 are in CELL 4", x.lead(), 1);
        x.hour(7);
        due("1 and 3 are in; 2 is in CELL 11, but wet", x.lead(), 2);
        due("of(2, 1)", x.of(2, 1), 11);
        rule(x, "dries 9;sheds 0;");
        x.hour(1);
        due("HORSE 0 went by one or two", x.lead(), 0);
    }

    @Sentence(promise = 42, says = "HEAVIEST.")
    void theHeaviestOfSome() {
        ClothesHorses x = with(1, 1, 1);
        x.piece(0, 9, 0);
        x.piece(0, 1, 9);
        x.peg(0, 0);
        x.peg(1, 2);
        due("9 and 10", x.heaviest(), 2);
        x.undo();
        due("9", x.heaviest(), 0);
    }

    @Sentence(promise = 42, says = "NONE: none.")
    void noHeaviest() {
        ClothesHorses none = new ClothesHorses();
        due("without HORSES", none.heaviest(), NONE);
        none.piece(0, 9, 20);
        due("without HORSES", none.heaviest(), NONE);
        none.horse(1);
        due("nothing on it", none.heaviest(), NONE);
    }

    @Sentence(promise = 42, says = "HEAVIEST: the HORSE of most weight (above 0); of like ones the lowest; none.")
    void likeWeights() {
        ClothesHorses x = with(9, 1, 1);
        x.piece(0, 1, 0);
        x.piece(0, 1, 0);
        x.peg(0, 2);
        due("a weight of 1", x.heaviest(), 2);
        x.peg(1, 1);
        due("of like ones", x.heaviest(), 1);
        x.sock(0, 1);
        due("one more", x.heaviest(), 2);
        ClothesHorses y = ruled("paces 3;dries 0;sheds 0;", 1);
        y.piece(0, 1, 0);
        y.peg(0, 0);
        y.hour(4);
        due("one that is in, too", y.of(0, 2) * 10 + y.heaviest(), 10);
    }

    @Sentence(promise = 43, says = "ON THE GRASS (bits).")
    void noneAndAllOnTheGrass() {
        ClothesHorses x = with(1);
        due("without PIECES", x.grass(), 0);
        for (int i = 0; i < 10; i++) {
            x.piece(0, 1, 0);
            due("grass()", x.grass(), (2 << i) - 1);
        }
        x.peg(0, 0);
        due("grass()", x.grass(), 1022);
        x.peg(9, 0);
        due("grass()", x.grass(), 510);
        for (int i = 1; i < 9; i++) {
            x.peg(i, 0);
        }
        due("grass()", x.grass(), 0);
        rule(x, "sheds 10;");
        x.hour(2);
        due("two were shed", x.grass(), 3);
    }

    @Sentence(promise = 44, says = "WETTEST.")
    void theWettestOfSome() {
        ClothesHorses x = with(1);
        x.piece(0, 1, 5);
        x.piece(0, 9, 4);
        x.piece(0, 1, 20);
        due("wettest()", x.wettest(), 2);
        x.peg(0, 0);
        x.sock(0, 20);
        due("on a HORSE or not; of like ones the lowest", x.wettest(), 0);
    }

    @Sentence(promise = 44, says = "NONE: none.")
    void noWettest() {
        ClothesHorses x = new ClothesHorses();
        due("without PIECES", x.wettest(), NONE);
        x.piece(0, 9, 0);
        x.piece(0, 9, 0);
        due("all are dry", x.wettest(), NONE);
    }

    @Sentence(promise = 44, says = "WETTEST: the PIECE of most WET (above 0); of like ones the lowest; none.")
    void likeWets() {
        ClothesHorses x = new ClothesHorses();
        x.piece(0, 9, 0);
        x.piece(0, 1, 1);
        due("WET 1", x.wettest(), 1);
        x.piece(0, 9, 1);
        due("of like ones", x.wettest(), 1);
        x.sock(2, 1);
        due("one more", x.wettest(), 2);
        for (int i = 3; i < 10; i++) {
            x.piece(0, 1, i == 9 ? 20 : 2);
        }
        due("the last one", x.wettest(), 9);
    }

    @Sentence(promise = 45, says = "WINS by the BOOK.")
    void winsAreOfTheBookAlone() {
        ClothesHorses x = ruled("paces if who=hour/4/31 then 3 else 0 end;", 1, 1);
        for (int race = 1; race <= 31; race++) {
            x.hour(4);
            x.start();
            due("wins(0)", x.wins(0), Math.min(30, race));
        }
        due("wins(1)", x.wins(1), 0);
        x.hour(4);
        due("HORSE 1 came in: wins(1)", x.wins(1), 1);
        due("the eldest is forgotten: wins(0)", x.wins(0), 29);
        x.undo();
        due("taken back: wins(0)", x.wins(0), 30);
        due("wins(1)", x.wins(1), 0);
    }

    @Sentence(promise = 45, says = "NONE for others.")
    void winsOfNoHorse() {
        ClothesHorses none = new ClothesHorses();
        each("wins", NONE, a -> none.wins(a[0]), ones(0, -1, 4));
        ClothesHorses x = with(9, 1);
        x.hour(4);
        each("wins", NONE, a -> x.wins(a[0]), ones(2, 4, 5, -1, -2, MIN, MAX));
        due("wins(0)", x.wins(0), 1);
        due("wins(1)", x.wins(1), 0);
    }

    @Sentence(promise = 45, says = "WINS: how often a HORSE came in as RANK 1.")
    void onlyTheFirstWins() {
        ClothesHorses x = with(9, 9, 9, 9, 9);
        x.hour(4);
        for (int horse = 0; horse < 5; horse++) {
            due("wins(" + horse + ")", x.wins(horse), horse == 0 ? 1 : 0);
        }
    }

    @Sentence(promise = 46, says = "BY THE BOOK.")
    void ledgerOfTheBookAlone() {
        ClothesHorses x = with(9, 9, 9, 9, 9);
        for (int race = 1; race <= 7; race++) {
            x.hour(4);
            x.start();
            due("ledger(NONE)", x.ledger(NONE), Math.min(30, 5 * race));
            for (int horse = 0; horse < 5; horse++) {
                due("ledger(" + horse + ")", x.ledger(horse), Math.min(6, race));
            }
        }
    }

    @Sentence(promise = 46, says = "BY THE BOOK: how often it came in (NONE: all).")
    void ledgerOfAll() {
        ClothesHorses none = new ClothesHorses();
        due("without HORSES ledger(NONE)", none.ledger(NONE), 0);
        ClothesHorses x = with(1, 9);
        due("ledger(NONE)", x.ledger(NONE), 0);
        due("ledger(0)", x.ledger(0), 0);
        x.hour(6);
        x.start();
        x.hour(4);
        due("ledger(NONE)", x.ledger(NONE), 3);
        due("ledger(0)", x.ledger(0), 1);
        due("ledger(1)", x.ledger(1), 2);
    }

    @Sentence(promise = 46, says = "-2 for others.")
    void ledgerOfNoHorse() {
        ClothesHorses none = new ClothesHorses();
        each("ledger", OTHERS, a -> none.ledger(a[0]), ones(0, 4, -2, MIN, MAX));
        ClothesHorses x = with(1, 9);
        each("ledger", OTHERS, a -> x.ledger(a[0]), ones(2, 4, 5, -2, MIN, MAX));
    }

    @Sentence(promise = 49, says = "0 HORSES, 1 PIECES, 2 TEXTS, 3 THE TEXT (NONE), 4 STEPS that can be taken back, 5 SEEN, 6 SAID, 7 bytes of the tape.")
    void aboutNothingAndAboutAll() {
        ClothesHorses x = new ClothesHorses();
        int[] nothing = {0, 0, 0, NONE, 0, 0, 0, 0};
        for (int what = 0; what <= 7; what++) {
            due("about(" + what + ")", x.about(what), nothing[what]);
        }
        for (int i = 0; i < 6; i++) {
            x.horse(1);
            x.see(1, 1);
            Checks.text(x, "start;");
        }
        for (int i = 0; i < 11; i++) {
            x.piece(0, 1, 1);
            x.said(0, 1);
        }
        x.see(1, 1);
        x.by(3);
        x.hour(40);
        Checks.tape(x, " ".repeat(300));
        x.feed(1, 1, 1, 1, 1);
        int[] most = {5, 10, 4, 3, 30, 6, 8, 300};
        for (int what = 0; what <= 7; what++) {
            due("about(" + what + ")", x.about(what), most[what]);
        }
    }

    @Sentence(promise = 49, says = "-2 for others.")
    void aboutOthers() {
        ClothesHorses x = with(1);
        each("about", OTHERS, a -> x.about(a[0]), ones(8, -1, -2, 9, MIN, MAX));
    }
}
