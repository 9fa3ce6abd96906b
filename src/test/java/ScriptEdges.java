/** Promise 14: what a TEXT plays. */
final class ScriptEdges extends Edges {
    /** Tells it and plays it. */
    private void plays(ClothesHorses x, String text, int want) {
        int number = Checks.text(x, text);
        due("text() of '" + text + "'", number >= 0, true);
        due("played '" + text + "'", x.played(number), want);
    }

    @Sentence(promise = 14, says = "PLAYED by a TEXT: NONE: all is done; else the number of the CLAUSE that can't be.")
    void nothingToPlay() {
        ClothesHorses x = with(1);
        plays(x, "", NONE);
        plays(x, "paces 1;dries 1;sheds 1;", NONE);
        due("about(4)", x.about(4), 0);
        due("by its laws nothing is ruled", x.about(3), NONE);
    }

    @Sentence(promise = 14, says = "PLAYED by a TEXT: NONE: all is done; else the number of the CLAUSE that can't be.")
    void theFirstAndTheLastClause() {
        ClothesHorses x = new ClothesHorses();
        plays(x, "start;".repeat(24), 0);
        plays(x, "wind 1 at 1;".repeat(23) + "start;", 23);
        plays(x, "paces 1;sheds 1;hour 1;dries 1;start;horse 1;", 4);
        due("what is behind isn't done", x.about(0), 0);
        due("what is ahead is", x.is(0), 1);
        x.horse(1);
        due("and it can be played once more", x.played(2), NONE);
        due("about(0)", x.about(0), 2);
    }

    @Sentence(promise = 14, says = "PLAYED by a TEXT: NONE: all is done; else the number of the CLAUSE that can't be.")
    void allNumbersOfTheLastClause() {
        ClothesHorses x = with(1, 1);
        plays(x, "piece 3 weight 9 wet 20;", NONE);
        plays(x, "start;".repeat(23) + "piece 2 weight 8 wet 19;", NONE);
        for (int what = 0; what <= 2; what++) {
            due("ofPiece(0, " + what + ")", x.ofPiece(0, what), of(3, 9, 20)[what]);
            due("ofPiece(1, " + what + ")", x.ofPiece(1, what), of(2, 8, 19)[what]);
        }
        plays(x, "start;".repeat(23) + "sock 1 on 1;", NONE);
        due("ofPiece(1, 2)", x.ofPiece(1, 2), 20);
        plays(x, "start;".repeat(23) + "peg 1 to 1;", NONE);
        due("ofPiece(1, 3)", x.ofPiece(1, 3), 1);
        x.back();
        plays(x, "horse 1;".repeat(5) + "start;".repeat(18) + "wind 9 at 11;", NONE);
        due("windAt(11)", x.windAt(11), 9);
        plays(x, "start;".repeat(23) + "hour 60;", NONE);
        due("is(0)", x.is(0), 60);
    }

    @Sentence(promise = 14, says = "-2 for others.")
    void otherTexts() {
        ClothesHorses x = with(1);
        refused(x, "played", OTHERS, a -> x.played(a[0]), ones(0, -1, -2, 1, 3, 4, MIN, MAX));
        Checks.text(x, "start;");
        refused(x, "played", OTHERS, a -> x.played(a[0]), ones(-1, -2, 1, 3, 4, MIN, MAX));
        Checks.text(x, "start");
        due("one with a FAULT isn't there", x.played(1), OTHERS);
        due("played(0)", x.played(0), NONE);
        for (int i = 1; i < 4; i++) {
            Checks.text(x, "start;");
        }
        each("of four played", OTHERS, a -> x.played(a[0]), ones(4, 5, -1, MIN, MAX));
        due("played(3)", x.played(3), NONE);
    }

    @Sentence(promise = 14, says = "PLAYED by a TEXT: its CLAUSES but laws, in their order, as by hand; one that can't be ends it (of so many HOURS those that can pass do): its number among all CLAUSES (from 0); what was done stays.")
    void asByHand() {
        ClothesHorses x = new ClothesHorses();
        ClothesHorses y = new ClothesHorses();
        String script = "horse 9;horse 1;piece 3 weight 9 wet 20;piece 0 weight 1 wet 0;wind 9 at 11;wind 0 at 0;"
            + "peg 0 to 1;peg 1 to 0;sock 20 on 1;hour 4;start;hour 1;";
        plays(x, script, NONE);
        due("text()", Checks.text(y, script), 0);
        y.horse(9);
        y.horse(1);
        y.piece(3, 9, 20);
        y.piece(0, 1, 0);
        y.wind(11, 9);
        y.wind(0, 0);
        y.peg(0, 1);
        y.peg(1, 0);
        y.sock(1, 20);
        y.hour(4);
        y.start();
        y.hour(1);
        same("all", all(x), all(y));
        due("STEPS each", x.about(4), 9);
    }

    @Sentence(promise = 14, says = "PLAYED by a TEXT: its CLAUSES but laws, in their order, as by hand; one that can't be ends it (of so many HOURS those that can pass do): its number among all CLAUSES (from 0); what was done stays.")
    void tooManyHorsesAndPieces() {
        ClothesHorses x = new ClothesHorses();
        plays(x, "horse 1;".repeat(6), 5);
        due("about(0)", x.about(0), 5);
        plays(x, "piece 1 weight 2 wet 3;".repeat(11), 10);
        due("about(1)", x.about(1), 10);
        due("once more", x.played(0), 0);
        due("once more", x.played(1), 0);
        due("about(4)", x.about(4), 0);
    }

    @Sentence(promise = 14, says = "PLAYED by a TEXT: its CLAUSES but laws, in their order, as by hand; one that can't be ends it (of so many HOURS those that can pass do): its number among all CLAUSES (from 0); what was done stays.")
    void pegsAndSocksThatCannotBe() {
        ClothesHorses x = with(9);
        x.piece(0, 1, 19);
        x.piece(0, 1, 0);
        plays(x, "peg 0 to 0;sock 1 on 0;sock 1 on 0;hour 1;", 2);
        due("ofPiece(0, 3)", x.ofPiece(0, 3), 0);
        due("ofPiece(0, 2)", x.ofPiece(0, 2), 20);
        due("is(0)", x.is(0), 0);
        plays(x, "peg 0 to 0;", 0);
        plays(x, "peg 1 to 1;", 0);
        plays(x, "sock 1 on 2;", 0);
        ClothesHorses y = with(9);
        y.piece(0, 1, 19);
        plays(y, "hour 4;peg 0 to 0;hour 1;", 1);
        due("HORSE 0 is in", y.of(0, 2), 1);
        due("is(0)", y.is(0), 4);
        plays(y, "peg 1 to 0;", 0);
        plays(y, "peg 0 to 4;", 0);
    }

    @Sentence(promise = 14, says = "PLAYED by a TEXT: its CLAUSES but laws, in their order, as by hand; one that can't be ends it (of so many HOURS those that can pass do): its number among all CLAUSES (from 0); what was done stays.")
    void hoursToTheLast() {
        ClothesHorses x = with(1);
        passTo(x, 9950);
        int text = x.about(2);
        due("text()", Checks.text(x, "paces 1;hour 49;horse 5;hour 1;horse 6;"), text);
        x.image();
        due("49 can pass, one more can't", x.played(text), 3);
        due("is(0)", x.is(0), 9999);
        due("about(0)", x.about(0), 2);
        x.back();
        due("text()", Checks.text(x, "hour 48;hour 60;start;"), text + 1);
        due("of 60 one can", x.played(text + 1), 1);
        due("is(0)", x.is(0), 9999);
        due("played", x.played(text + 1), 0);
        due("is(0)", x.is(0), 9999);
        due("the one that passed is a STEP", x.undo(), 29);
        due("is(0)", x.is(0), 9998);
        due("of 48 one can", x.played(text + 1), 0);
        due("is(0)", x.is(0), 9999);
    }

    @Sentence(promise = 14, says = "PLAYED by a TEXT: its CLAUSES but laws, in their order, as by hand; one that can't be ends it (of so many HOURS those that can pass do): its number among all CLAUSES (from 0); what was done stays.")
    void theRulingTextRules() {
        ClothesHorses x = ruled("paces 1;", 9);
        plays(x, "paces 3;hour 2;", NONE);
        due("by THE TEXT, not by its own laws", x.of(0, 1), 2);
        due("about(3)", x.about(3), 0);
    }
}
