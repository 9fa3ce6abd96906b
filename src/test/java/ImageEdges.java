/** Promises 47 and 48: the image, and the way back to it. */
final class ImageEdges extends Edges {
    /** Something of all there is: told, done, seen, said, written down. */
    private static ClothesHorses busy() {
        ClothesHorses x = with(9, 1);
        x.piece(0, 1, 9);
        x.piece(2, 4, 12);
        x.wind(3, 7);
        Checks.text(x, "paces 2;");
        Checks.text(x, "dries 1;hour 3;");
        x.by(0);
        x.peg(0, 0);
        x.peg(1, 1);
        x.hour(6);
        x.odds(0, 5);
        x.odds(1, 4);
        x.beat(0, 1, 3);
        x.beat(1, 0, 2);
        x.strength(0, 3);
        x.see(1, 2);
        x.said(0, 1);
        return x;
    }

    /** All of it is another one then. */
    private static void change(ClothesHorses x) {
        x.horse(5);
        x.piece(1, 1, 1);
        x.wind(3, 1);
        Checks.text(x, "paces 0;");
        x.by(2);
        x.peg(2, 2);
        x.sock(1, 20);
        x.years(17, 40);
        x.start();
        x.hour(33);
        x.odds(0, 3);
        x.beat(0, 1, 1);
        x.beat(1, 0, 1);
        x.strength(0, 20);
        x.see(2, 2);
        x.said(NONE, 0);
    }

    @Sentence(promise = 47, says = "THE IMAGE is as all is now: HOUR.")
    void imageTellsTheHour() {
        ClothesHorses x = new ClothesHorses();
        due("image()", x.image(), 0);
        x.hour(5);
        due("image()", x.image(), 5);
        x.hour(7);
        due("back()", x.back(), 5);
        passTo(x, 9999);
        due("image()", x.image(), 9999);
        due("back()", x.back(), 9999);
    }

    @Sentence(promise = 47, says = "THE IMAGE is as all is now: HOUR.")
    void theLatestImageCounts() {
        ClothesHorses x = with(1);
        x.image();
        x.horse(2);
        x.image();
        x.horse(3);
        x.back();
        due("about(0)", x.about(0), 2);
    }

    @Sentence(promise = 47, says = "THE IMAGE is as all is now: HOUR.")
    void theImageIsNotTouchedByWhatComes() {
        ClothesHorses x = busy();
        String before = all(x);
        x.image();
        same("image() changes nothing", all(x), before);
        change(x);
        x.back();
        same("all", all(x), before);
    }

    @Sentence(promise = 48, says = "BACK to THE IMAGE (it stays): HOUR.")
    void theImageStays() {
        ClothesHorses x = busy();
        x.image();
        String before = all(x);
        for (int i = 0; i < 2; i++) {
            change(x);
            due("back()", x.back(), 6);
        }
        same("all", all(x), before);
        due("at once", x.back(), 6);
        due("about(4)", x.about(4), 8);
    }

    @Sentence(promise = 48, says = "AN IMAGE: all as it is, but the tape and the latest FAULT.")
    void notTheTapeAndNotTheFault() {
        ClothesHorses x = new ClothesHorses();
        Checks.text(x, "start;");
        Checks.tape(x, "horse 7;");
        x.image();
        due("the tape is as it was", x.about(7), 8);
        Checks.text(x, "start");
        Checks.tape(x, "horse 9;hour 1;");
        x.back();
        due("the tape stays", x.about(7), 15);
        due("the FAULT stays", x.fault(0), 1);
        due("its place stays", x.fault(1), 5);
        due("text()", x.text(), 1);
        due("played(1)", x.played(1), NONE);
        due("of(0, 0)", x.of(0, 0), 9);
        x.back();
        due("the tape is empty since", x.about(7), 0);
        due("fault(0)", x.fault(0), 0);
    }

    @Sentence(promise = 48, says = "BACK: all is so again.")
    void stepsAreThereAgain() {
        ClothesHorses x = busy();
        String[] before = new String[2];
        x.image();
        x.undo();
        before[0] = all(x);
        x.undo();
        before[1] = all(x);
        x.back();
        change(x);
        x.back();
        due("undo()", x.undo(), 7);
        same("all", all(x), before[0]);
        due("undo()", x.undo(), 6);
        same("all", all(x), before[1]);
    }

    @Sentence(promise = 48, says = "BACK: all is so again.")
    void thirtyStepsAndAFullBookAreThereAgain() {
        ClothesHorses x = with(9, 9, 9, 9, 9);
        for (int race = 0; race < 7; race++) {
            x.hour(4);
            x.start();
        }
        x.image();
        due("about(4)", x.about(4), 30);
        int[] before = new int[30];
        for (int left = 29; left >= 0; left--) {
            x.undo();
            before[left] = x.is(0) * 100 + x.of(0, 1);
        }
        x.hour(60);
        due("back()", x.back(), 28);
        due("about(4)", x.about(4), 30);
        due("book(0, 0)", x.book(0, 0), 7);
        due("book(29, 0)", x.book(29, 0), 27);
        for (int left = 29; left >= 0; left--) {
            due("undo()", x.undo(), left);
            due("HOUR and CELL", x.is(0) * 100 + x.of(0, 1), before[left]);
        }
        due("undo()", x.undo(), NONE);
        due("is(0)", x.is(0), 4);
        due("book(NONE, 0)", x.book(NONE, 0), 5);
        due("back()", x.back(), 28);
        due("about(4)", x.about(4), 30);
    }

    @Sentence(promise = 48, says = "BACK: all is so again.")
    void whatWasSeenAndSaidIsSoAgain() {
        ClothesHorses x = with(1, 1);
        Checks.text(x, "dries 5;");
        x.piece(0, 1, 9);
        x.piece(0, 1, 9);
        x.peg(0, 0);
        x.see(1, 2);
        x.see(3, 6);
        x.said(0, 5);
        x.said(1, 7);
        x.image();
        for (int change = 0; change < 4; change++) {
            // Other HOURS, other CELLS, other PIECES, other dries in their places.
            x.see(NONE, 0);
            x.said(NONE, 0);
            x.see(change == 0 ? 2 : 1, change == 1 ? 3 : 2);
            x.see(change == 0 ? 1 : 3, change == 1 ? 5 : 6);
            x.said(change == 2 ? 1 : 0, change == 3 ? 6 : 5);
            x.said(change == 2 ? 0 : 1, 7);
            due("change " + change + ": nobbled(0, 1)", x.nobbled(0, 1), change < 2 ? 0 : 1);
            due("change " + change + ": whose()", x.whose(), change < 2 ? 1 : 0);
            x.back();
            due("change " + change + ", and back: nobbled(0, 1)", x.nobbled(0, 1), 1);
            due("change " + change + ", and back: whose()", x.whose(), 1);
        }
    }

    @Sentence(promise = 48, says = "BACK: all is so again.")
    void whoBeatWhomIsSoAgain() {
        ClothesHorses x = with(1, 1, 1, 1, 1);
        for (int horse = 0; horse < 4; horse++) {
            x.beat(horse + 1, horse, 1);
        }
        due("ranking(0)", x.ranking(0), 4);
        x.image();
        for (int horse = 0; horse < 5; horse++) {
            for (int other = 0; other < 5; other++) {
                x.beat(horse, other, horse < other ? 9 : 0);
            }
            x.back();
            for (int i = 0; i < 5; i++) {
                due("ranking(" + i + ")", x.ranking(i), 4 - i);
            }
            due("ranking(NONE)", x.ranking(NONE), 0);
        }
    }

    @Sentence(promise = 48, says = "BACK: all is so again.")
    void theLimitsAreFreeAgain() {
        ClothesHorses x = new ClothesHorses();
        for (int round = 0; round < 3; round++) {
            for (int i = 0; i < 5; i++) {
                due("horse(1)", x.horse(1), i);
            }
            due("horse(1)", x.horse(1), NONE);
            for (int i = 0; i < 10; i++) {
                due("piece(0, 1, 7)", x.piece(0, 1, 7), i);
                due("as told", x.ofPiece(i, 2) * 10 + x.ofPiece(i, 3), 69);
                x.peg(i, i % 5);
                x.sock(i, 5);
            }
            due("piece(0, 1, 1)", x.piece(0, 1, 1), NONE);
            for (int i = 0; i < 4; i++) {
                due("text()", x.text(), i);
            }
            due("text()", x.text(), NONE);
            due("back()", x.back(), 0);
            due("about(0)", x.about(0), 0);
            due("about(1)", x.about(1), 0);
            due("about(2)", x.about(2), 0);
        }
    }
}
