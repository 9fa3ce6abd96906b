/** Promises 1 to 4, 9 and 20: a new object, and what is told of horses, pieces, wind and THE TEXT. */
final class TellingEdges extends Edges {
    @Sentence(promise = 1, says = "No horse; THE IMAGE is this.")
    void aNewObjectIsEmpty() {
        ClothesHorses x = new ClothesHorses();
        for (int what = 0; what <= 7; what++) {
            due("about(" + what + ")", x.about(what), what == 3 ? NONE : 0);
        }
        due("of(0, 0)", x.of(0, 0), NONE);
        due("ofPiece(0, 0)", x.ofPiece(0, 0), OTHERS);
        due("book(NONE, 0)", x.book(NONE, 0), 0);
        due("undo()", x.undo(), NONE);
        due("played(0)", x.played(0), OTHERS);
        due("grass()", x.grass(), 0);
    }

    @Sentence(promise = 1, says = "The constants: `NONE = -1`: None.")
    void noneIsMinusOne() {
        due("NONE", ClothesHorses.NONE, -1);
    }

    @Sentence(promise = 1, says = "No horse; THE IMAGE is this.")
    void theFirstImageIsTheNewObject() {
        String fresh = all(new ClothesHorses());
        ClothesHorses x = with(9, 2);
        x.piece(1, 2, 3);
        x.wind(0, 9);
        x.wind(11, 0);
        x.peg(0, 1);
        x.hour(9);
        x.odds(0, 20);
        x.strength(1, 20);
        x.beat(0, 1, 9);
        x.see(1, 1);
        x.said(0, 1);
        due("back()", x.back(), 0);
        same("all behind back()", all(x), fresh);
    }

    @Sentence(promise = 1, says = "An object is used for at most 512 calls after it has been made")
    void the512thCallIsAnsweredYet() {
        ClothesHorses x = with(6);
        for (int race = 0; race < 255; race++) {
            due("start()", x.start(), true);
            due("hour(4)", x.hour(4), 1);
        }
        due("is(0), the 512th call", x.is(0), 1020);
    }

    @Sentence(promise = 2, says = "A HORSE: its number.")
    void horsesAreNumberedFromNothing() {
        ClothesHorses x = new ClothesHorses();
        for (int i = 0; i < 5; i++) {
            due("horse " + i, x.horse(9 - i), i);
            due("about(0)", x.about(0), i + 1);
        }
        for (int i = 0; i < 5; i++) {
            due("of(" + i + ", 0)", x.of(i, 0), 9 - i);
        }
    }

    @Sentence(promise = 2, says = "HORSES 0 .. 4 (told one by one): HINGES 1 .. 9.")
    void hingesOfOneAndNine() {
        ClothesHorses x = new ClothesHorses();
        due("horse(1)", x.horse(1), 0);
        due("horse(9)", x.horse(9), 1);
        due("of(0, 0)", x.of(0, 0), 1);
        due("of(1, 0)", x.of(1, 0), 9);
        due("of(2, 0)", x.of(2, 0), NONE);
    }

    @Sentence(promise = 2, says = "NONE for others, or if there are 5.")
    void otherHinges() {
        ClothesHorses x = with(3);
        refused(x, "horse", NONE, a -> x.horse(a[0]), ones(0, 10, -1, -9, 257, MIN, MAX));
        due("the next horse(4)", x.horse(4), 1);
    }

    @Sentence(promise = 2, says = "NONE for others, or if there are 5.")
    void aSixthHorse() {
        ClothesHorses x = with(1, 2, 3, 4, 5);
        refused(x, "horse", NONE, a -> x.horse(a[0]), ones(1, 5, 9, 0, 10));
    }

    @Sentence(promise = 3, says = "A PIECE: its number.")
    void piecesAreNumberedFromNothing() {
        ClothesHorses x = new ClothesHorses();
        for (int i = 0; i < 10; i++) {
            due("piece " + i, x.piece(i % 4, 1 + i % 9, i * 2), i);
        }
        for (int i = 0; i < 10; i++) {
            due("ofPiece(" + i + ", 0)", x.ofPiece(i, 0), i % 4);
            due("ofPiece(" + i + ", 1)", x.ofPiece(i, 1), 1 + i % 9);
            due("ofPiece(" + i + ", 2)", x.ofPiece(i, 2), i * 2);
        }
    }

    @Sentence(promise = 3, says = "PIECES 0 .. 9 (told one by one): STUFF 0 .. 3, WEIGHT 1 .. 9, WET 0 .. 20 (as told), on a HORSE or on the grass (at first).")
    void piecesOfTheLeastAndTheMost() {
        ClothesHorses x = with(1);
        due("piece(0, 1, 0)", x.piece(0, 1, 0), 0);
        due("piece(3, 9, 20)", x.piece(3, 9, 20), 1);
        for (int what = 0; what <= 2; what++) {
            due("ofPiece(0, " + what + ")", x.ofPiece(0, what), what == 1 ? 1 : 0);
            due("ofPiece(1, " + what + ")", x.ofPiece(1, what), of(3, 9, 20)[what]);
        }
        due("on the grass at first", x.ofPiece(0, 3), NONE);
        due("on the grass at first", x.grass(), 3);
    }

    @Sentence(promise = 3, says = "NONE for others, or if there are 10.")
    void otherPieces() {
        ClothesHorses x = new ClothesHorses();
        x.piece(0, 1, 0);
        refused(x, "piece", NONE, a -> x.piece(a[0], a[1], a[2]), of(-1, 1, 0), of(4, 1, 0), of(MIN, 1, 0), of(MAX, 1, 0),
            of(0, 0, 0), of(0, 10, 0), of(0, -1, 0), of(0, MIN, 0), of(0, MAX, 0),
            of(0, 1, -1), of(0, 1, 21), of(0, 1, MIN), of(0, 1, MAX));
        due("the next piece(0, 1, 0)", x.piece(0, 1, 0), 1);
    }

    @Sentence(promise = 3, says = "NONE for others, or if there are 10.")
    void anEleventhPiece() {
        ClothesHorses x = new ClothesHorses();
        for (int i = 0; i < 10; i++) {
            x.piece(1, 2, 3);
        }
        refused(x, "piece", NONE, a -> x.piece(a[0], a[1], a[2]), of(0, 1, 0), of(3, 9, 20), of(4, 1, 0));
        due("grass()", x.grass(), 1023);
    }

    @Sentence(promise = 4, says = "WIND told: true.")
    void windIsToldAnew() {
        ClothesHorses x = new ClothesHorses();
        due("wind(3, 9)", x.wind(3, 9), true);
        due("wind(3, 7)", x.wind(3, 7), true);
        due("windAt(3)", x.windAt(3), 7);
        due("the same once more", x.wind(3, 7), true);
        due("windAt(3)", x.windAt(3), 7);
        due("windAt(2)", x.windAt(2), 4);
        due("windAt(4)", x.windAt(4), 4);
    }

    @Sentence(promise = 4, says = "CELLS 0 .. 11: WIND 0 .. 9 (told; at first 4).")
    void windOfTheFirstAndTheLastCell() {
        ClothesHorses x = new ClothesHorses();
        for (int cell = 0; cell < 12; cell++) {
            due("at first windAt(" + cell + ")", x.windAt(cell), 4);
        }
        due("wind(0, 0)", x.wind(0, 0), true);
        due("wind(11, 9)", x.wind(11, 9), true);
        due("windAt(0)", x.windAt(0), 0);
        due("windAt(11)", x.windAt(11), 9);
        due("windAt(1)", x.windAt(1), 4);
        due("windAt(10)", x.windAt(10), 4);
    }

    @Sentence(promise = 4, says = "False for others.")
    void otherWinds() {
        ClothesHorses x = new ClothesHorses();
        refused(x, "wind", 0, a -> bit(x.wind(a[0], a[1])), of(-1, 0), of(12, 0), of(MIN, 0), of(MAX, 0), of(0, -1),
            of(0, 10), of(0, MIN), of(0, MAX), of(-1, -1), of(11, 10), of(12, 9));
    }

    @Sentence(promise = 9, says = "THE TEXT (NONE: none): true.")
    void theFirstTheLastAndNoText() {
        ClothesHorses x = with(9);
        due("none to begin with", x.by(NONE), true);
        due("about(3)", x.about(3), NONE);
        for (int i = 0; i < 4; i++) {
            Checks.text(x, "paces " + (3 - i) + ";");
        }
        for (int i = 0; i < 4; i++) {
            due("by(" + i + ")", x.by(i), true);
            due("about(3)", x.about(3), i);
            due("of(0, 5)", x.of(0, 5), 3 - i);
        }
        due("by(NONE)", x.by(NONE), true);
        due("about(3)", x.about(3), NONE);
        due("of(0, 5)", x.of(0, 5), 3);
    }

    @Sentence(promise = 9, says = "False for others.")
    void otherTexts() {
        ClothesHorses x = with(9);
        refused(x, "by", 0, a -> bit(x.by(a[0])), ones(0, 1, 3, 4, -2, MIN, MAX));
        rule(x, "paces 2;");
        refused(x, "by", 0, a -> bit(x.by(a[0])), ones(1, 3, 4, -2, MIN, MAX));
        due("the same rules", x.of(0, 5), 2);
        for (int i = 1; i < 4; i++) {
            Checks.text(x, "paces 1;");
        }
        refused(x, "of four by", 0, a -> bit(x.by(a[0])), ones(4, 5, -2, MIN, MAX));
        due("the same rules", x.of(0, 5), 2);
    }

    @Sentence(promise = 9, says = "False for others.")
    void aTextWithAFaultCannotRule() {
        ClothesHorses x = with(9);
        due("text()", Checks.text(x, "paces 2"), NONE);
        due("by(0)", x.by(0), false);
        due("about(3)", x.about(3), NONE);
    }

    @Sentence(promise = 9, says = "THE TEXT (told; at first none) rules.")
    void aTextRulesWhenItIsToldTo() {
        ClothesHorses x = with(9);
        due("about(3)", x.about(3), NONE);
        Checks.text(x, "paces 0;");
        due("a text that was read doesn't rule yet", x.of(0, 5), 3);
        due("about(3)", x.about(3), NONE);
        x.by(0);
        due("of(0, 5)", x.of(0, 5), 0);
    }

    @Sentence(promise = 20, says = "WIND.")
    void windOfEachCell() {
        ClothesHorses x = new ClothesHorses();
        for (int cell = 0; cell < 12; cell++) {
            x.wind(cell, (cell * 7 + 3) % 10);
        }
        for (int cell = 0; cell < 12; cell++) {
            due("windAt(" + cell + ")", x.windAt(cell), (cell * 7 + 3) % 10);
        }
    }

    @Sentence(promise = 20, says = "NONE for others.")
    void windOfNoCell() {
        ClothesHorses x = new ClothesHorses();
        each("windAt", NONE, a -> x.windAt(a[0]), ones(-1, 12, -2, MIN, MAX));
    }
}
