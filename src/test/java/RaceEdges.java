/** Promises 10 to 13, 15 and 16: pegging, wetting, starting, hours, years, and taking them back. */
final class RaceEdges extends Edges {
    /** HORSES that go 3 CELLS an HOUR and shed nothing, with PIECES that never dry. */
    private ClothesHorses steady(int... hinges) {
        return ruled("paces 3;dries 0;sheds 0;", hinges);
    }

    @Sentence(promise = 10, says = "PEGGED: true.")
    void theFirstAndTheLastPieceAndHorse() {
        ClothesHorses x = with(1, 2, 3, 4, 5);
        for (int i = 0; i < 10; i++) {
            x.piece(0, 1, i);
        }
        due("peg(0, 0)", x.peg(0, 0), true);
        due("peg(9, 4)", x.peg(9, 4), true);
        due("ofPiece(0, 3)", x.ofPiece(0, 3), 0);
        due("ofPiece(9, 3)", x.ofPiece(9, 3), 4);
        due("of(4, 3)", x.of(4, 3), 512);
        due("about(4)", x.about(4), 2);
        for (int i = 1; i < 9; i++) {
            due("all on one: peg(" + i + ", 4)", x.peg(i, 4), true);
        }
        due("of(4, 3)", x.of(4, 3), 1022);
        due("grass()", x.grass(), 0);
    }

    @Sentence(promise = 10, says = "False, if it can't be, and for others.")
    void otherPiecesAndHorses() {
        ClothesHorses none = new ClothesHorses();
        refused(none, "peg", 0, a -> bit(none.peg(a[0], a[1])), of(0, 0));
        ClothesHorses x = with(1, 2);
        refused(x, "without pieces peg", 0, a -> bit(x.peg(a[0], a[1])), of(0, 0));
        x.piece(0, 1, 1);
        x.piece(0, 1, 1);
        refused(x, "peg", 0, a -> bit(x.peg(a[0], a[1])), of(-1, 0), of(2, 0), of(9, 0), of(10, 0), of(MIN, 0), of(MAX, 0),
            of(0, -1), of(0, 2), of(0, 4), of(0, 5), of(0, MIN), of(0, MAX));
        ClothesHorses y = new ClothesHorses();
        y.piece(0, 1, 1);
        refused(y, "without horses peg", 0, a -> bit(y.peg(a[0], a[1])), of(0, 0), of(0, -1));
    }

    @Sentence(promise = 10, says = "PEGGED: a PIECE that is on the grass on a HORSE that isn't in.")
    void aPieceThatIsNotOnTheGrass() {
        ClothesHorses x = with(1, 2);
        x.piece(0, 1, 1);
        x.peg(0, 0);
        refused(x, "peg", 0, a -> bit(x.peg(a[0], a[1])), of(0, 0), of(0, 1));
    }

    @Sentence(promise = 10, says = "PEGGED: a PIECE that is on the grass on a HORSE that isn't in.")
    void aHorseThatIsIn() {
        ClothesHorses x = with(9, 1);
        x.piece(0, 1, 1);
        due("hour(3)", x.hour(3), 0);
        due("in CELL 9 it can be", x.peg(0, 0), true);
        x.undo();
        due("hour(1)", x.hour(1), 1);
        refused(x, "peg", 0, a -> bit(x.peg(a[0], a[1])), of(0, 0));
        due("the other one isn't in", x.peg(0, 1), true);
        x.undo();
        x.start();
        due("STARTED, it isn't in any more", x.peg(0, 0), true);
    }

    @Sentence(promise = 10, says = "PEGGED: a PIECE that is on the grass on a HORSE that isn't in.")
    void aHorseInTheLastCellThatIsNotIn() {
        ClothesHorses x = steady(1);
        x.piece(0, 1, 1);
        x.piece(0, 1, 1);
        x.peg(0, 0);
        due("hour(9)", x.hour(9), 0);
        due("of(0, 1)", x.of(0, 1), 11);
        due("peg(1, 0)", x.peg(1, 0), true);
    }

    @Sentence(promise = 11, says = "WETTED: true.")
    void wettedByOneAndByTwenty() {
        ClothesHorses x = new ClothesHorses();
        for (int i = 0; i < 10; i++) {
            x.piece(0, 1, 0);
        }
        due("sock(0, 1)", x.sock(0, 1), true);
        due("sock(9, 20)", x.sock(9, 20), true);
        due("ofPiece(0, 2)", x.ofPiece(0, 2), 1);
        due("ofPiece(9, 2)", x.ofPiece(9, 2), 20);
        due("ofPiece(8, 2)", x.ofPiece(8, 2), 0);
        due("about(4)", x.about(4), 2);
    }

    @Sentence(promise = 11, says = "WETTED: a PIECE by 1 .. 20 more (20 at most).")
    void twentyAtMost() {
        ClothesHorses x = new ClothesHorses();
        int[][] wets = {{0, 20, 20}, {1, 19, 20}, {1, 20, 20}, {19, 1, 20}, {19, 2, 20}, {19, 20, 20}, {10, 9, 19}, {10, 10, 20},
            {10, 11, 20}};
        for (int i = 0; i < wets.length; i++) {
            x.piece(0, 1, wets[i][0]);
            due("sock(" + i + ", " + wets[i][1] + ")", x.sock(i, wets[i][1]), true);
            due("ofPiece(" + i + ", 2)", x.ofPiece(i, 2), wets[i][2]);
        }
    }

    @Sentence(promise = 11, says = "False, if it is as wet as can be, and for others (wet 1 .. 20).")
    void asWetAsCanBe() {
        ClothesHorses x = with(1);
        x.piece(0, 1, 20);
        x.piece(0, 1, 19);
        x.peg(0, 0);
        refused(x, "sock", 0, a -> bit(x.sock(a[0], a[1])), of(0, 1), of(0, 20));
        due("sock(1, 1)", x.sock(1, 1), true);
        refused(x, "sock", 0, a -> bit(x.sock(a[0], a[1])), of(1, 1), of(1, 20));
    }

    @Sentence(promise = 11, says = "False, if it is as wet as can be, and for others (wet 1 .. 20).")
    void otherSocks() {
        ClothesHorses none = with(1);
        refused(none, "sock", 0, a -> bit(none.sock(a[0], a[1])), of(0, 1));
        ClothesHorses x = with(1);
        x.piece(0, 1, 3);
        refused(x, "sock", 0, a -> bit(x.sock(a[0], a[1])), of(0, 0), of(0, 21), of(0, -1), of(0, MIN), of(0, MAX), of(-1, 1),
            of(1, 1), of(9, 1), of(10, 1), of(MIN, 1), of(MAX, 1));
    }

    @Sentence(promise = 12, says = "STARTED: true.")
    void startedAtOnceAndTwice() {
        ClothesHorses x = with(1);
        due("with one horse that never went", x.start(), true);
        due("about(4)", x.about(4), 1);
        due("once more", x.start(), true);
        due("about(4)", x.about(4), 2);
    }

    @Sentence(promise = 12, says = "False without HORSES.")
    void noHorsesToStart() {
        ClothesHorses x = new ClothesHorses();
        refused(x, "start", 0, a -> bit(x.start()), of());
        x.piece(0, 1, 1);
        x.hour(1);
        refused(x, "start", 0, a -> bit(x.start()), of());
    }

    @Sentence(promise = 12, says = "STARTED: all HORSES are in CELL 0, none is in (PIECES stay).")
    void allAreInTheFirstCell() {
        ClothesHorses x = steady(1, 2, 3, 4, 5);
        x.piece(0, 1, 9);
        x.piece(0, 1, 9);
        x.peg(0, 4);
        due("hour(4)", x.hour(4), 4);
        due("is(3)", x.is(3), 4);
        int now = x.is(1);
        int sun = x.is(2);
        due("start()", x.start(), true);
        for (int horse = 0; horse < 5; horse++) {
            due("of(" + horse + ", 1)", x.of(horse, 1), 0);
            due("of(" + horse + ", 2)", x.of(horse, 2), 0);
        }
        due("is(3)", x.is(3), 0);
        due("PIECES stay: ofPiece(0, 3)", x.ofPiece(0, 3), 4);
        due("PIECES stay: ofPiece(1, 3)", x.ofPiece(1, 3), NONE);
        due("ofPiece(0, 2)", x.ofPiece(0, 2), 9);
        due("is(0)", x.is(0), 4);
        due("is(1)", x.is(1), now);
        due("is(2)", x.is(2), sun);
        due("the BOOK stays", x.book(NONE, 0), 4);
        due("hour(4)", x.hour(4), 4);
        due("RANKS begin anew", x.of(0, 2), 1);
    }

    @Sentence(promise = 13, says = "HOURS pass (1 .. 60): how many HORSES come in in them.")
    void oneHourAndSixty() {
        ClothesHorses none = new ClothesHorses();
        due("hour(1)", none.hour(1), 0);
        due("is(0)", none.is(0), 1);
        due("hour(60)", none.hour(60), 0);
        due("is(0)", none.is(0), 61);
        due("is(1)", none.is(1), drawn(277, 61));
        ClothesHorses x = steady(1, 1, 1, 1, 1);
        due("hour(3)", x.hour(3), 0);
        due("hour(1)", x.hour(1), 5);
        due("hour(60)", x.hour(60), 0);
        x.start();
        due("all within: hour(60)", x.hour(60), 5);
    }

    @Sentence(promise = 13, says = "NONE for others, or beyond 9999 (nothing is done then).")
    void otherHours() {
        ClothesHorses x = with(9);
        refused(x, "hour", NONE, a -> x.hour(a[0]), ones(0, -1, 61, MIN, MAX, MAX - 1));
        x.hour(1);
        refused(x, "hour", NONE, a -> x.hour(a[0]), ones(0, -1, 61, MIN, MAX));
    }

    @Sentence(promise = 13, says = "NONE for others, or beyond 9999 (nothing is done then).")
    void hoursBeyondTheLast() {
        ClothesHorses x = with(9);
        passTo(x, 9950);
        x.start();
        refused(x, "hour", NONE, a -> x.hour(a[0]), ones(50, 51, 60));
        due("hour(49)", x.hour(49), 1);
        due("is(0)", x.is(0), 9999);
        x.undo();
        due("is(0)", x.is(0), 9998);
        refused(x, "hour", NONE, a -> x.hour(a[0]), ones(2, 60));
        due("hour(1)", x.hour(1), 0);
        refused(x, "hour", NONE, a -> x.hour(a[0]), ones(1, 2, 60, 0, MAX));
    }

    @Sentence(promise = 13, says = "HOUR is one more (at 9999 none can pass).")
    void theLastHour() {
        ClothesHorses x = with(1);
        due("at first is(0)", x.is(0), 0);
        for (int i = 1; i <= 3; i++) {
            x.hour(1);
            due("is(0)", x.is(0), i);
        }
        passTo(x, 9999);
        due("is(0)", x.is(0), 9999);
        refused(x, "hour", NONE, a -> x.hour(a[0]), ones(1));
        refused(x, "foretold", x.of(0, 1), a -> x.foretold(1, 0, 0), of());
    }

    @Sentence(promise = 13, says = "AN HOUR: SUN is X mod 10 (X being (X * 523 + 409) mod 30707 then).")
    void theSunIsDrawn() {
        ClothesHorses x = new ClothesHorses();
        int suns = 0;
        for (int i = 0; i < 100; i++) {
            int now = x.is(1);
            due("X below 30707", now >= 0 && now < 30707, true);
            x.hour(1);
            due("SUN of " + now, x.is(2), now % 10);
            due("X behind " + now, x.is(1), (int) ((now * 523L + 409) % 30707));
            suns |= 1 << x.is(2);
        }
        due("SUN was each of 0 .. 9", suns, 1023);
    }

    @Sentence(promise = 13, says = "HORSES that aren't in by number: WET of each PIECE on it, by number, is less by dries (0 at least);")
    void noDrierThanDry() {
        ClothesHorses x = ruled("dries 5;sheds 0;paces 0;", 1);
        int[] wets = {0, 1, 4, 5, 6, 20};
        int[] then = {0, 0, 0, 0, 1, 15};
        for (int i = 0; i < 6; i++) {
            x.piece(0, 1, wets[i]);
            x.peg(i, 0);
        }
        x.piece(0, 1, 7);
        x.hour(1);
        for (int i = 0; i < 6; i++) {
            due("ofPiece(" + i + ", 2)", x.ofPiece(i, 2), then[i]);
        }
        due("on the grass nothing dries", x.ofPiece(6, 2), 7);
    }

    @Sentence(promise = 13, says = "HORSES that aren't in by number: WET of each PIECE on it, by number, is less by dries (0 at least);")
    void byNumber() {
        // Each PIECE finds the load that those ahead of it left: 24, 18, 14.
        ClothesHorses x = ruled("dries load/4;sheds 0;paces 0;", 1);
        x.piece(0, 1, 7);
        x.piece(0, 1, 7);
        x.piece(0, 1, 7);
        x.peg(2, 0);
        x.peg(1, 0);
        x.peg(0, 0);
        x.hour(1);
        due("24 / 4 less", x.ofPiece(0, 2), 1);
        due("18 / 4 less", x.ofPiece(1, 2), 3);
        due("14 / 4 less", x.ofPiece(2, 2), 4);
        // Of those that come in in one HOUR the lowest is the first.
        ClothesHorses y = with(9, 9, 9);
        due("hour(4)", y.hour(4), 3);
        for (int horse = 0; horse < 3; horse++) {
            due("of(" + horse + ", 2)", y.of(horse, 2), horse + 1);
        }
    }

    @Sentence(promise = 13, says = "HORSES that aren't in by number: WET of each PIECE on it, by number, is less by dries (0 at least);")
    void whoIsInDriesNoMore() {
        ClothesHorses x = ruled("paces 3;dries 1;sheds 0;", 1);
        x.piece(0, 1, 0);
        x.peg(0, 0);
        due("hour(4)", x.hour(4), 1);
        x.sock(0, 5);
        int now = x.is(1);
        due("hour(2)", x.hour(2), 0);
        due("ofPiece(0, 2)", x.ofPiece(0, 2), 5);
        due("and it draws nothing", x.is(1), drawn(now, 2));
        due("of(0, 2)", x.of(0, 2), 1);
    }

    @Sentence(promise = 13, says = "then, if there is one on it, a draw by 10 (as SUN): below sheds its lowest PIECE is on the grass, and it stops for this HOUR;")
    void aDrawOnlyWithAPiece() {
        ClothesHorses x = with(1, 1, 1);
        x.piece(0, 1, 9);
        x.peg(0, 1);
        x.hour(1);
        due("one for SUN and one for HORSE 1", x.is(1), drawn(277, 2));
        ClothesHorses y = with(1, 1, 1);
        y.hour(1);
        due("one for SUN", y.is(1), drawn(277, 1));
    }

    @Sentence(promise = 13, says = "then, if there is one on it, a draw by 10 (as SUN): below sheds its lowest PIECE is on the grass, and it stops for this HOUR;")
    void justBelowSheds() {
        // SEEDS whose X is odd and of kind 3: years(seed, 1) draws once and does nothing else.
        int draws = 0;
        for (int seed = 1; seed < 1000; seed += 3) {
            int x0 = seed * 2 + 277;
            due("x of kind 3", x0 % 6, 3);
            int draw = drawn(x0, 2) % 10;
            if ((draws >> draw & 1) == 0) {
                draws |= 1 << draw;
                for (int sheds = 0; sheds <= 10; sheds++) {
                    shedsBelow(seed, draw, sheds);
                }
            }
        }
        due("each draw of 0 .. 9 was tried", draws, 1023);
    }

    private void shedsBelow(int seed, int draw, int sheds) {
        ClothesHorses x = ruled("sheds " + sheds + ";paces 2;dries 1;", 1);
        x.piece(0, 1, 9);
        x.piece(0, 1, 9);
        x.piece(0, 1, 9);
        x.peg(2, 0);
        x.peg(1, 0);
        x.years(seed, 1);
        x.hour(1);
        boolean sheds1 = draw < sheds;
        due("draw " + draw + ", sheds " + sheds + ": of(0, 3)", x.of(0, 3), sheds1 ? 4 : 6);
        due("draw " + draw + ", sheds " + sheds + ": of(0, 1)", x.of(0, 1), sheds1 ? 0 : 2);
        due("it dried ahead of that", x.ofPiece(1, 2), 8);
    }

    @Sentence(promise = 13, says = "then, if there is one on it, a draw by 10 (as SUN): below sheds its lowest PIECE is on the grass, and it stops for this HOUR;")
    void shedsAreAskedBehindDrying() {
        // The draw is 2: below a load of 3, not below one of 2.
        for (int weight = 1; weight <= 4; weight++) {
            ClothesHorses x = ruled("sheds load;dries wet;paces 1;", 1);
            x.piece(0, weight, 9);
            x.peg(0, 0);
            x.hour(1);
            due("load " + weight, x.of(0, 3), weight <= 2 ? 1 : 0);
            due("of(0, 1)", x.of(0, 1), weight <= 2 ? 1 : 0);
        }
    }

    @Sentence(promise = 13, says = "then, if there is one on it, a draw by 10 (as SUN): below sheds its lowest PIECE is on the grass, and it stops for this HOUR;")
    void whoShedsTheLastPieceStopsToo() {
        ClothesHorses x = steady(1);
        x.piece(0, 1, 1);
        x.peg(0, 0);
        x.hour(4);
        rule(x, "sheds 10;paces 0;");
        due("in CELL 11, with nothing on it any more, it isn't in yet", x.hour(1), 0);
        due("grass()", x.grass(), 1);
        due("of(0, 2)", x.of(0, 2), 0);
        due("but then", x.hour(1), 1);
    }

    @Sentence(promise = 13, says = "else its CELL is more by paces (11 at most), and if it is 11 then and all PIECES on it are dry (WET 0), it is in: written down.")
    void elevenAtMost() {
        for (int paces = 0; paces <= 3; paces++) {
            ClothesHorses x = ruled("paces " + paces + ";dries 0;sheds 0;", 1);
            x.piece(0, 1, 1);
            x.peg(0, 0);
            for (int hours = 1; hours <= 13; hours++) {
                due("hour(1)", x.hour(1), 0);
                due("of(0, 1)", x.of(0, 1), Math.min(11, hours * paces));
            }
        }
    }

    @Sentence(promise = 13, says = "else its CELL is more by paces (11 at most), and if it is 11 then and all PIECES on it are dry (WET 0), it is in: written down.")
    void byTheWeightThatIsLeft() {
        for (int wet = 9; wet <= 14; wet++) {
            ClothesHorses x = ruled("dries 2;sheds 0;", 5, 6);
            x.piece(0, 9, wet);
            x.piece(0, 9, wet);
            x.peg(0, 0);
            x.peg(1, 1);
            x.hour(1);
            // Below 20 when it is 12 and dries to 10.
            due("WET " + wet + ": of(0, 1)", x.of(0, 1), wet <= 12 ? 2 : 1);
            due("WET " + wet + ": of(1, 1)", x.of(1, 1), wet <= 12 ? 3 : 2);
        }
    }

    @Sentence(promise = 13, says = "else its CELL is more by paces (11 at most), and if it is 11 then and all PIECES on it are dry (WET 0), it is in: written down.")
    void inAsSoonAsAllIsDry() {
        ClothesHorses x = ruled("paces 3;dries 1;sheds 0;", 1);
        x.piece(0, 1, 4);
        x.piece(0, 1, 5);
        x.piece(0, 1, 9);
        x.peg(0, 0);
        x.peg(1, 0);
        due("hour(4): in CELL 11, one is wet yet", x.hour(4), 0);
        due("of(0, 1)", x.of(0, 1), 11);
        due("ofPiece(1, 2)", x.ofPiece(1, 2), 1);
        due("of(0, 2)", x.of(0, 2), 0);
        due("hour(1)", x.hour(1), 1);
        due("of(0, 2)", x.of(0, 2), 1);
        due("written down with the HOUR it was", x.book(0, 0), 4);
        // In the HOUR in which it comes to CELL 11, if all is dry; not in CELL 10.
        ClothesHorses y = ruled("paces if cell=9 then 1 else 3 end;sheds 0;", 1);
        due("hour(4): in CELL 10", y.hour(4), 0);
        due("of(0, 1)", y.of(0, 1), 10);
        due("hour(1)", y.hour(1), 1);
    }

    @Sentence(promise = 13, says = "else its CELL is more by paces (11 at most), and if it is 11 then and all PIECES on it are dry (WET 0), it is in: written down.")
    void noPacesAreNeededInTheLastCell() {
        ClothesHorses x = steady(1);
        x.piece(0, 1, 1);
        x.peg(0, 0);
        x.hour(5);
        rule(x, "paces 0;dries 1;sheds 0;");
        due("hour(1)", x.hour(1), 1);
    }

    @Sentence(promise = 13, says = "A HORSE is in a CELL (at first 0), in or not (RANK 0: not; 1 for the first one that came in, then 2, ..).")
    void ranksFromOneToFive() {
        ClothesHorses x = ruled("paces if hour>=who*5 then 3 else 0 end;", 1, 1, 1, 1, 1);
        for (int horse = 0; horse < 5; horse++) {
            due("at first of(" + horse + ", 1)", x.of(horse, 1), 0);
            due("at first of(" + horse + ", 2)", x.of(horse, 2), 0);
        }
        for (int i = 1; i <= 5; i++) {
            due("hour(5)", x.hour(5), 1);
            due("of(" + (i - 1) + ", 2)", x.of(i - 1, 2), i);
            due("of(" + i + ", 2)", i == 5 ? 0 : x.of(i, 2), 0);
            due("is(3)", x.is(3), i);
        }
    }

    @Sentence(promise = 15, says = "YEARS: HOUR.")
    void yearsTellTheHour() {
        ClothesHorses x = new ClothesHorses();
        x.hour(7);
        // 277 + 2 * 5 is of kind 5, 277 + 2 * 4 of kind 3.
        due("years(5, 1)", x.years(5, 1), 8);
        due("years(4, 1)", x.years(4, 1), 8);
        due("is(0)", x.is(0), 8);
    }

    @Sentence(promise = 15, says = "NONE for others.")
    void otherYears() {
        ClothesHorses x = with(1);
        x.piece(0, 1, 1);
        refused(x, "years", NONE, a -> x.years(a[0], a[1]), of(-1, 1), of(10000, 1), of(MIN, 1), of(MAX, 1), of(0, 0), of(0, -1),
            of(0, 41), of(0, MIN), of(0, MAX), of(-1, 0), of(9999, 41));
    }

    @Sentence(promise = 15, says = "YEARS by a SEED: X is SEED (0 .. 9999) * 2 + 277; n times (1 .. 40): x is X, X anew (as in a draw):")
    void theLeastAndTheGreatestSeed() {
        ClothesHorses x = new ClothesHorses();
        // 277 and 20275 are of kind 1: without PIECES nothing but the one draw.
        due("years(0, 1)", x.years(0, 1), 0);
        due("is(1)", x.is(1), drawn(277, 1));
        due("years(9999, 1)", x.years(9999, 1), 0);
        due("is(1)", x.is(1), drawn(20275, 1));
    }

    @Sentence(promise = 15, says = "YEARS by a SEED: X is SEED (0 .. 9999) * 2 + 277; n times (1 .. 40): x is X, X anew (as in a draw):")
    void onceAndFortyTimes() {
        for (int seed : of(0, 1, 2, 7, 5000, 9999)) {
            for (int n : of(1, 2, 39, 40)) {
                // Without HORSES and PIECES kinds 4 and 5 are an HOUR, which draws once for SUN.
                int now = seed * 2 + 277;
                int hours = 0;
                for (int i = 0; i < n; i++) {
                    boolean anHour = now % 6 >= 4;
                    hours += anHour ? 1 : 0;
                    now = drawn(now, anHour ? 2 : 1);
                }
                ClothesHorses x = new ClothesHorses();
                due("years(" + seed + ", " + n + ")", x.years(seed, n), hours);
                due("is(1)", x.is(1), now);
            }
        }
    }

    @Sentence(promise = 15, says = "x mod 6: 0, 1 PIECE x mod how many is PEGGED to HORSE x / 6 mod how many; 2 it is WETTED by 1 and x mod 9; 3 STARTED, if x mod 4 is 0 (each if it can be); 4, 5 an HOUR (if it can pass).")
    void drawnPegs() {
        int pegged = 0;
        for (int seed = 0; seed < 60; seed++) {
            int first = seed * 2 + 277;
            if (first % 6 == 1) {
                ClothesHorses x = with(1, 2, 3);
                for (int i = 0; i < 7; i++) {
                    x.piece(0, 1, 1);
                }
                x.years(seed, 1);
                due("x " + first + ": grass()", x.grass(), 127 - (1 << first % 7));
                due("x " + first + ": ofPiece", x.ofPiece(first % 7, 3), first / 6 % 3);
                pegged |= 1 << first % 7;
                x.years(seed, 1);
                due("one that is on a HORSE can't be", x.ofPiece(first % 7, 3), first / 6 % 3);
            }
        }
        due("each PIECE was one", pegged, 127);
    }

    @Sentence(promise = 15, says = "x mod 6: 0, 1 PIECE x mod how many is PEGGED to HORSE x / 6 mod how many; 2 it is WETTED by 1 and x mod 9; 3 STARTED, if x mod 4 is 0 (each if it can be); 4, 5 an HOUR (if it can pass).")
    void drawnPegsToWhoIsIn() {
        ClothesHorses x = with(9);
        x.piece(0, 1, 1);
        x.hour(4);
        due("of(0, 2)", x.of(0, 2), 1);
        // 277 is of kind 1, 22452 of kind 0.
        due("years(0, 2)", x.years(0, 2), 4);
        due("ofPiece(0, 3)", x.ofPiece(0, 3), NONE);
        x.start();
        due("years(0, 1)", x.years(0, 1), 4);
        due("ofPiece(0, 3)", x.ofPiece(0, 3), 0);
    }

    @Sentence(promise = 15, says = "x mod 6: 0, 1 PIECE x mod how many is PEGGED to HORSE x / 6 mod how many; 2 it is WETTED by 1 and x mod 9; 3 STARTED, if x mod 4 is 0 (each if it can be); 4, 5 an HOUR (if it can pass).")
    void drawnSocks() {
        int wetted = 0;
        for (int seed = 1; seed < 700; seed += 3) {
            // Kind 3, and then kind 2.
            int second = drawn(seed * 2 + 277, 1);
            if (second % 6 == 2) {
                ClothesHorses x = new ClothesHorses();
                for (int i = 0; i < 4; i++) {
                    x.piece(0, 1, of(0, 15, 19, 20)[i]);
                }
                int piece = second % 4;
                int by = 1 + second % 9;
                x.years(seed, 2);
                for (int i = 0; i < 4; i++) {
                    int was = of(0, 15, 19, 20)[i];
                    due("x " + second + ": ofPiece(" + i + ", 2)", x.ofPiece(i, 2), i == piece ? Math.min(20, was + by) : was);
                }
                wetted |= 1 << by;
            }
        }
        // What is 2 mod 6 is 2, 5 or 8 mod 9.
        due("by 3, 6 and 9", wetted, 1 << 3 | 1 << 6 | 1 << 9);
    }

    @Sentence(promise = 15, says = "x mod 6: 0, 1 PIECE x mod how many is PEGGED to HORSE x / 6 mod how many; 2 it is WETTED by 1 and x mod 9; 3 STARTED, if x mod 4 is 0 (each if it can be); 4, 5 an HOUR (if it can pass).")
    void drawnStartsAreNone() {
        // What is 3 mod 6 is odd, so that it is never 0 mod 4.
        ClothesHorses x = with(1);
        x.hour(2);
        for (int seed = 1; seed < 100; seed += 3) {
            due("years(" + seed + ", 1)", x.years(seed, 1), 2);
            due("of(0, 1)", x.of(0, 1), 4);
        }
    }

    @Sentence(promise = 15, says = "x mod 6: 0, 1 PIECE x mod how many is PEGGED to HORSE x / 6 mod how many; 2 it is WETTED by 1 and x mod 9; 3 STARTED, if x mod 4 is 0 (each if it can be); 4, 5 an HOUR (if it can pass).")
    void drawnHours() {
        // 277 + 2 * 5 is of kind 5; an even one, of kind 4, comes second.
        ClothesHorses x = with(9);
        due("years(5, 1)", x.years(5, 1), 1);
        due("of(0, 1)", x.of(0, 1), 3);
        due("SUN by the draw behind x", x.is(2), drawn(287, 1) % 10);
        int seed = 1;
        while (drawn(seed * 2 + 277, 1) % 6 != 4) {
            seed += 3;
        }
        due("years(" + seed + ", 2)", x.years(seed, 2), 2);
        due("of(0, 1)", x.of(0, 1), 6);
    }

    @Sentence(promise = 15, says = "x mod 6: 0, 1 PIECE x mod how many is PEGGED to HORSE x / 6 mod how many; 2 it is WETTED by 1 and x mod 9; 3 STARTED, if x mod 4 is 0 (each if it can be); 4, 5 an HOUR (if it can pass).")
    void drawnHoursAtTheLast() {
        ClothesHorses x = with(1);
        passTo(x, 9998);
        x.start();
        due("years(5, 1)", x.years(5, 1), 9999);
        due("of(0, 1)", x.of(0, 1), 2);
        int sun = x.is(2);
        due("years(5, 1)", x.years(5, 1), 9999);
        due("of(0, 1)", x.of(0, 1), 2);
        due("SUN isn't drawn", x.is(2), sun);
        due("X is, for x alone", x.is(1), drawn(287, 1));
        due("years(9999, 40)", x.years(9999, 40), 9999);
        due("is(1)", x.is(1), drawn(20275, 40));
    }

    @Sentence(promise = 15, says = "What there are none of isn't.")
    void noPiecesOrNoHorses() {
        ClothesHorses x = with(1);
        due("without PIECES years(0, 2)", x.years(0, 2), 0);
        due("is(1)", x.is(1), drawn(277, 2));
        int seed = 1;
        while (drawn(seed * 2 + 277, 1) % 6 != 2) {
            seed += 3;
        }
        due("nothing to wet", x.years(seed, 2), 0);
        due("about(1)", x.about(1), 0);
        ClothesHorses y = new ClothesHorses();
        y.piece(0, 1, 1);
        due("without HORSES years(0, 2)", y.years(0, 2), 0);
        due("ofPiece(0, 3)", y.ofPiece(0, 3), NONE);
        due("but a PIECE can be wet", y.years(seed, 2), 0);
        due("ofPiece(0, 2)", y.ofPiece(0, 2), 2 + drawn(seed * 2 + 277, 1) % 9);
        due("and an HOUR can pass", y.years(5, 1), 1);
        due("without either years(0, 40)", new ClothesHorses().years(0, 40) > 0, true);
    }

    @Sentence(promise = 15, says = "It is one STEP: HOUR.")
    void allYearsAreOneStep() {
        ClothesHorses x = with(1);
        x.piece(0, 1, 1);
        x.sock(0, 3);
        String before = all(x);
        x.years(9999, 40);
        due("about(4)", x.about(4), 2);
        due("undo()", x.undo(), 1);
        same("all", all(x), before);
        x.years(4, 1);
        due("one in which nothing was done is one, too", x.about(4), 2);
    }

    @Sentence(promise = 16, says = "The latest STEP is taken back: how many can be yet.")
    void eachKindOfStepIsTakenBack() {
        ClothesHorses x = with(9, 1);
        x.piece(0, 1, 5);
        String[] before = new String[6];
        before[0] = all(x);
        x.peg(0, 1);
        before[1] = all(x);
        x.sock(0, 3);
        before[2] = all(x);
        x.hour(1);
        before[3] = all(x);
        x.start();
        before[4] = all(x);
        x.years(17, 9);
        for (int left = 4; left >= 0; left--) {
            due("undo()", x.undo(), left);
            same("all", all(x), before[left]);
        }
    }

    @Sentence(promise = 16, says = "NONE: there is none.")
    void nothingToTakeBack() {
        ClothesHorses x = new ClothesHorses();
        refused(x, "undo", NONE, a -> x.undo(), of(), of());
        x.horse(1);
        x.piece(0, 1, 1);
        x.wind(1, 1);
        x.odds(0, 5);
        Checks.text(x, "start;");
        x.by(0);
        refused(x, "what is told is no STEP: undo", NONE, a -> x.undo(), of(), of());
        x.start();
        due("undo()", x.undo(), 0);
        refused(x, "undo", NONE, a -> x.undo(), of(), of());
    }

    @Sentence(promise = 16, says = "STEPS: PEGGED, WETTED, STARTED, an HOUR (each), YEARS (see V): the latest 30 can be taken back, the latest first (CELLS, RANKS, WET, where PIECES are, SUN, HOUR, X, BOOK are as ahead of it; PIECES told since are as told; WIND stays).")
    void thirtyAndThirtyOneSteps() {
        for (int steps = 29; steps <= 32; steps++) {
            ClothesHorses x = with(1);
            for (int i = 0; i < steps; i++) {
                x.hour(1);
            }
            int can = Math.min(30, steps);
            due("about(4) behind " + steps, x.about(4), can);
            for (int left = can - 1; left >= 0; left--) {
                due("undo()", x.undo(), left);
                due("is(0)", x.is(0), steps - can + left);
            }
            due("undo()", x.undo(), NONE);
            due("is(0)", x.is(0), steps - can);
        }
    }

    @Sentence(promise = 16, says = "STEPS: PEGGED, WETTED, STARTED, an HOUR (each), YEARS (see V): the latest 30 can be taken back, the latest first (CELLS, RANKS, WET, where PIECES are, SUN, HOUR, X, BOOK are as ahead of it; PIECES told since are as told; WIND stays).")
    void hoursAtOnceAreStepsEach() {
        ClothesHorses x = with(1);
        x.hour(60);
        due("about(4)", x.about(4), 30);
        for (int i = 0; i < 30; i++) {
            x.undo();
        }
        due("is(0)", x.is(0), 30);
        due("is(1)", x.is(1), drawn(277, 30));
        due("undo()", x.undo(), NONE);
        // Taken back and done anew, over and over, they come round.
        for (int i = 0; i < 5; i++) {
            x.hour(21);
            for (int j = 0; j < 13; j++) {
                x.undo();
            }
        }
        due("is(0)", x.is(0), 70);
        due("about(4)", x.about(4), 17);
    }

    @Sentence(promise = 16, says = "STEPS: PEGGED, WETTED, STARTED, an HOUR (each), YEARS (see V): the latest 30 can be taken back, the latest first (CELLS, RANKS, WET, where PIECES are, SUN, HOUR, X, BOOK are as ahead of it; PIECES told since are as told; WIND stays).")
    void whatWasToldSinceStays() {
        ClothesHorses x = with(1);
        x.hour(1);
        x.piece(2, 3, 11);
        x.horse(9);
        x.wind(4, 9);
        x.odds(1, 20);
        x.peg(0, 1);
        x.sock(0, 4);
        x.hour(3);
        for (int left = 5; left >= 0; left--) {
            due("undo()", x.undo(), left);
        }
        due("about(0)", x.about(0), 2);
        due("about(1)", x.about(1), 1);
        due("a HORSE told since is in CELL 0", x.of(1, 1), 0);
        due("of(1, 2)", x.of(1, 2), 0);
        due("a PIECE told since is as told: WET", x.ofPiece(0, 2), 11);
        due("and on the grass", x.ofPiece(0, 3), NONE);
        due("WIND stays", x.windAt(4), 9);
        due("about(4)", x.about(4), 0);
        due("is(0)", x.is(0), 0);
    }

    @Sentence(promise = 16, says = "STEPS: PEGGED, WETTED, STARTED, an HOUR (each), YEARS (see V): the latest 30 can be taken back, the latest first (CELLS, RANKS, WET, where PIECES are, SUN, HOUR, X, BOOK are as ahead of it; PIECES told since are as told; WIND stays).")
    void aFullBookComesBack() {
        ClothesHorses x = with(9, 9, 9, 9, 9);
        for (int race = 0; race < 6; race++) {
            x.hour(4);
            x.start();
        }
        due("book(NONE, 0)", x.book(NONE, 0), 30);
        due("the eldest", x.book(0, 0), 3);
        x.hour(4);
        due("the eldest, when five more are in", x.book(0, 0), 7);
        x.undo();
        due("the eldest is there again", x.book(0, 0), 3);
        due("book(29, 0)", x.book(29, 0), 23);
        for (int i = 0; i < 30; i++) {
            due("book(" + i + ", 1)", x.book(i, 1), i % 5);
            due("book(" + i + ", 2)", x.book(i, 2), i % 5 + 1);
        }
        due("is(3)", x.is(3), 0);
        due("of(0, 1)", x.of(0, 1), 9);
    }

    @Sentence(promise = 16, says = "STEPS: PEGGED, WETTED, STARTED, an HOUR (each), YEARS (see V): the latest 30 can be taken back, the latest first (CELLS, RANKS, WET, where PIECES are, SUN, HOUR, X, BOOK are as ahead of it; PIECES told since are as told; WIND stays).")
    void aFullBookOfWhichOneWasForgottenComesBack() {
        // HORSES 2, 1 and 0 come in by turns; the 31st is HORSE 2 behind four HOURS.
        ClothesHorses x = ruled("paces 1+who;", 1, 1, 1);
        for (int race = 0; race < 10; race++) {
            x.hour(11);
            x.start();
        }
        due("hour(4)", x.hour(4), 1);
        due("the eldest is HORSE 1", x.book(0, 1) * 10 + x.book(0, 2), 12);
        x.undo();
        for (int i = 0; i < 30; i++) {
            due("book(" + i + ", 1)", x.book(i, 1), 2 - i % 3);
            due("book(" + i + ", 2)", x.book(i, 2), i % 3 + 1);
        }
    }

    @Sentence(promise = 16, says = "STEPS: PEGGED, WETTED, STARTED, an HOUR (each), YEARS (see V): the latest 30 can be taken back, the latest first (CELLS, RANKS, WET, where PIECES are, SUN, HOUR, X, BOOK are as ahead of it; PIECES told since are as told; WIND stays).")
    void aBookThatIsNotFullComesBack() {
        // HORSES 1 and 0 come in, then 1 alone: 1/1, 0/2, 1/1.
        ClothesHorses x = with(1, 9);
        x.hour(6);
        x.start();
        x.hour(4);
        due("book(NONE, 0)", x.book(NONE, 0), 3);
        for (int left = 2; left >= 0; left--) {
            x.undo();
            for (int back = 0; x.is(0) != of(3, 5, 9)[left] && back < 9; back++) {
                x.undo();
            }
            due("book(NONE, 0)", x.book(NONE, 0), left);
        }
        due("run anew: hour(3)", x.hour(3), 2);
        due("book(0, 1)", x.book(0, 1) * 10 + x.book(0, 2), 11);
        due("book(1, 1)", x.book(1, 1) * 10 + x.book(1, 2), 2);
    }

    @Sentence(promise = 16, says = "STEPS: PEGGED, WETTED, STARTED, an HOUR (each), YEARS (see V): the latest 30 can be taken back, the latest first (CELLS, RANKS, WET, where PIECES are, SUN, HOUR, X, BOOK are as ahead of it; PIECES told since are as told; WIND stays).")
    void whatIsRefusedIsNoStep() {
        ClothesHorses x = with(1);
        x.piece(0, 1, 20);
        x.peg(0, 0);
        x.peg(0, 0);
        x.sock(0, 1);
        x.hour(0);
        x.hour(61);
        x.years(0, 41);
        x.peg(1, 0);
        due("about(4)", x.about(4), 1);
        due("undo()", x.undo(), 0);
        due("ofPiece(0, 3)", x.ofPiece(0, 3), NONE);
    }
}
