/** Promises 22 to 26 and 36 to 40: what comes, packing, sure books, nobbling, drying, and whose law it was. */
final class ComingEdges extends Edges {
    private static final String ALWAYS_THREE = "paces 3;dries 0;sheds 0;";

    @Sentence(promise = 22, says = "FORETOLD: 0 the CELL of a HORSE, 1 WET of a PIECE, 2 RANK of a HORSE.")
    void itComesAsForetold() {
        ClothesHorses x = with(9, 1, 5);
        for (int i = 0; i < 5; i++) {
            x.piece(i % 4, 1 + i, 4 * i);
            x.peg(i, i % 2 + 1);
        }
        for (int n : of(1, 2, 9, 60)) {
            int[] cells = {x.foretold(n, 0, 0), x.foretold(n, 0, 1), x.foretold(n, 0, 2)};
            int[] ranks = {x.foretold(n, 2, 0), x.foretold(n, 2, 1), x.foretold(n, 2, 2)};
            int[] wets = {x.foretold(n, 1, 0), x.foretold(n, 1, 1), x.foretold(n, 1, 2), x.foretold(n, 1, 3), x.foretold(n, 1, 4)};
            x.image();
            x.hour(n);
            for (int i = 0; i < 5; i++) {
                due("WET of " + i + " behind " + n, wets[i], x.ofPiece(i, 2));
                if (i < 3) {
                    due("CELL of " + i + " behind " + n, cells[i], x.of(i, 1));
                    due("RANK of " + i + " behind " + n, ranks[i], x.of(i, 2));
                }
            }
            x.back();
        }
    }

    @Sentence(promise = 22, says = "NONE for others.")
    void otherForetellings() {
        ClothesHorses none = new ClothesHorses();
        each("foretold", NONE, a -> none.foretold(a[0], a[1], a[2]), of(1, 0, 0), of(1, 1, 0), of(1, 2, 0));
        ClothesHorses x = with(9, 1);
        x.piece(0, 1, 1);
        refused(x, "foretold", NONE, a -> x.foretold(a[0], a[1], a[2]), of(0, 0, 0), of(61, 0, 0), of(-1, 0, 0), of(MIN, 0, 0),
            of(MAX, 0, 0), of(1, 3, 0), of(1, -1, 0), of(1, MIN, 0), of(1, MAX, 0), of(1, 0, 2), of(1, 0, -1), of(1, 0, 4),
            of(1, 0, 5), of(1, 0, MIN), of(1, 0, MAX), of(1, 1, 1), of(1, 1, -1), of(1, 1, 9), of(1, 1, 10), of(1, 1, MAX),
            of(1, 2, 2), of(1, 2, -1), of(1, 2, MAX));
        due("HORSE 1 where there is one PIECE", x.foretold(1, 2, 1), 0);
    }

    @Sentence(promise = 22, says = "FORETOLD behind n HOURS (1 .. 60; those that can pass), nothing else being done.")
    void behindOneAndBehindSixtyHours() {
        ClothesHorses x = ruled("paces if hour<59 then 0 else 1 end;", 1);
        due("foretold(1, 0, 0)", x.foretold(1, 0, 0), 0);
        due("foretold(59, 0, 0)", x.foretold(59, 0, 0), 0);
        due("foretold(60, 0, 0)", x.foretold(60, 0, 0), 1);
        x.hour(1);
        due("foretold(58, 0, 0)", x.foretold(58, 0, 0), 0);
        due("foretold(59, 0, 0)", x.foretold(59, 0, 0), 1);
        due("foretold(60, 0, 0)", x.foretold(60, 0, 0), 2);
    }

    @Sentence(promise = 22, says = "FORETOLD behind n HOURS (1 .. 60; those that can pass), nothing else being done.")
    void thoseThatCanPass() {
        ClothesHorses x = ruled("paces 1;dries 1;sheds 0;", 1);
        x.piece(0, 1, 20);
        passTo(x, 9997);
        x.start();
        x.peg(0, 0);
        due("foretold(1, 0, 0)", x.foretold(1, 0, 0), 1);
        due("foretold(2, 0, 0)", x.foretold(2, 0, 0), 2);
        due("foretold(3, 0, 0)", x.foretold(3, 0, 0), 2);
        due("foretold(60, 0, 0)", x.foretold(60, 0, 0), 2);
        due("foretold(60, 1, 0)", x.foretold(60, 1, 0), 18);
        due("hour(2)", x.hour(2), 0);
        due("at 9999 foretold(1, 0, 0)", x.foretold(1, 0, 0), 2);
        due("at 9999 foretold(60, 2, 0)", x.foretold(60, 2, 0), 0);
    }

    @Sentence(promise = 22, says = "All that follows changes nothing but what is told.")
    void nothingIsChanged() {
        ClothesHorses x = with(9, 1, 4);
        x.piece(0, 5, 20);
        x.piece(1, 5, 20);
        x.peg(0, 1);
        x.hour(2);
        Checks.text(x, "dries 3;");
        x.see(1, 3);
        x.said(0, 3);
        Call asking = a -> x.foretold(60, 0, 0) + x.winner() + x.dry(1) + x.pack(2, 1) + x.sure(1, 0) + x.nobbled(1, 0)
            + x.nobbled(1, 1) + x.nobbled(1, 2) + x.ranking(0) + x.kings() + x.rings() + x.heats(2, 0) + x.first(0, true)
            + x.order(0, 1, true) + x.two(0, true) + x.whose() + x.lead() + x.heaviest() + x.grass() + x.wettest() + x.wins(0)
            + x.ledger(0);
        refused(x, "all that is asked", asking.on(), asking, of());
    }

    @Sentence(promise = 23, says = "THE WINNER.")
    void whoHasOrGetsRankOne() {
        ClothesHorses x = with(1, 5, 9);
        due("gets it", x.winner(), 2);
        x.hour(4);
        due("has it", x.winner(), 2);
        x.hour(60);
        due("when all are in", x.winner(), 2);
        x.start();
        due("STARTED anew", x.winner(), 2);
    }

    @Sentence(promise = 23, says = "NONE: none.")
    void noWinner() {
        due("without HORSES", new ClothesHorses().winner(), NONE);
        due("none goes on", ruled("paces 0;", 1, 2).winner(), NONE);
        ClothesHorses x = ruled(ALWAYS_THREE, 1);
        x.piece(0, 1, 1);
        x.peg(0, 0);
        due("none is dry", x.winner(), NONE);
    }

    @Sentence(promise = 23, says = "THE WINNER: the HORSE that has, or gets, RANK 1 within 60 HOURS, nothing else being done; none.")
    void inTheSixtiethHourOrTheNext() {
        // Four HOURS from CELL 0: 56 to 59 are the last four of 60.
        ClothesHorses x = ruled("paces if hour<56 then 0 else 3 end;", 1, 1);
        due("in the 60th", x.winner(), 0);
        due("foretold(60, 2, 0)", x.foretold(60, 2, 0), 1);
        ClothesHorses y = ruled("paces if hour<57 then 0 else 3 end;", 1, 1);
        due("in the 61st", y.winner(), NONE);
        y.hour(1);
        due("an HOUR later", y.winner(), 0);
    }

    @Sentence(promise = 23, says = "THE WINNER: the HORSE that has, or gets, RANK 1 within 60 HOURS, nothing else being done; none.")
    void atTheLastHour() {
        ClothesHorses x = ruled(ALWAYS_THREE, 1, 1);
        passTo(x, 9995);
        x.start();
        due("four HOURS can pass", x.winner(), 0);
        x.hour(1);
        x.start();
        due("three can", x.winner(), NONE);
        x.back();
        ClothesHorses y = ruled(ALWAYS_THREE, 1, 1);
        passTo(y, 9999);
        due("who has RANK 1 has it", y.winner(), 0);
        y.start();
        due("STARTED at 9999", y.winner(), NONE);
    }

    @Sentence(promise = 24, says = "PACKED: the weight (i NONE), the HORSE of PIECE i.")
    void packsOfOneAndOfEight() {
        ClothesHorses x = with(1, 1, 1, 1, 1);
        for (int i = 0; i < 10; i++) {
            x.piece(0, 9, 20);
        }
        due("pack(1, NONE)", x.pack(1, NONE), 29);
        due("pack(1, 0)", x.pack(1, 0), 0);
        due("pack(5, NONE)", x.pack(5, NONE), 29);
        due("pack(6, NONE)", x.pack(6, NONE), 58);
        due("pack(8, NONE)", x.pack(8, NONE), 58);
        // Two at most on each, and the first ones on the lowest HORSES: 0 0 1 1 2 2 3 3.
        for (int i = 0; i < 8; i++) {
            due("pack(5, " + i + ")", x.pack(5, i), i < 5 ? i : OTHERS);
            due("pack(8, " + i + ")", x.pack(8, i), i / 2);
        }
    }

    @Sentence(promise = 24, says = "-2 for others (n 1 .. 8; without HORSES).")
    void otherPacks() {
        ClothesHorses x = with(1, 1);
        each("without PIECES pack", OTHERS, a -> x.pack(a[0], a[1]), of(1, NONE), of(0, NONE));
        for (int i = 0; i < 10; i++) {
            x.piece(0, 1, 1);
        }
        each("pack", OTHERS, a -> x.pack(a[0], a[1]), of(0, NONE), of(9, NONE), of(10, NONE), of(-1, NONE), of(MIN, NONE),
            of(MAX, NONE), of(3, 3), of(3, -2), of(3, MIN), of(3, MAX), of(8, 8), of(8, 9), of(0, 0), of(9, 0));
        ClothesHorses y = with(1);
        y.piece(0, 1, 1);
        y.piece(0, 1, 1);
        each("of two PIECES pack", OTHERS, a -> y.pack(a[0], a[1]), of(3, NONE), of(3, 0), of(8, NONE), of(2, 2));
        due("pack(2, NONE)", y.pack(2, NONE), 4);
    }

    @Sentence(promise = 24, says = "-2 for others (n 1 .. 8; without HORSES).")
    void packsWithoutHorses() {
        ClothesHorses x = new ClothesHorses();
        x.piece(0, 1, 1);
        each("pack", OTHERS, a -> x.pack(a[0], a[1]), of(1, NONE), of(1, 0));
        x.horse(1);
        due("with one", x.pack(1, NONE), 2);
    }

    @Sentence(promise = 24, says = "PACKED: the first n PIECES each on one of the HORSES (those on them aside), so that the greatest weight of these on one HORSE is least; of like ones the lowest HORSE of PIECE 0, then of 1, ...")
    void theGreatestWeightIsLeast() {
        ClothesHorses x = with(1, 1);
        int[] weights = {9, 8, 7, 6, 5, 4, 3, 2};
        for (int weight : weights) {
            x.piece(0, weight, 0);
        }
        // 44 in all: 22 and 22; the lowest: 9 and 8 on HORSE 0 leave 5 to come, as 5 or 3 and 2; 5 is PIECE 4.
        int[] on = {0, 0, 1, 1, 0, 1, 1, 1};
        due("pack(8, NONE)", x.pack(8, NONE), 22);
        for (int i = 0; i < 8; i++) {
            due("pack(8, " + i + ")", x.pack(8, i), on[i]);
        }
        ClothesHorses one = with(1);
        for (int weight : weights) {
            one.piece(0, weight, 1);
        }
        due("all on one HORSE", one.pack(8, NONE), 52);
        due("pack(8, 7)", one.pack(8, 7), 0);
    }

    @Sentence(promise = 24, says = "PACKED: the first n PIECES each on one of the HORSES (those on them aside), so that the greatest weight of these on one HORSE is least; of like ones the lowest HORSE of PIECE 0, then of 1, ...")
    void ofLikeOnesTheLowestHorse() {
        ClothesHorses x = with(1, 1, 1);
        x.piece(0, 9, 20);
        x.piece(0, 1, 0);
        x.piece(0, 1, 0);
        x.piece(0, 9, 19);
        due("pack(4, NONE)", x.pack(4, NONE), 29);
        // PIECE 0 fills HORSE 0; 1 and 2 are on 1, where 3 would be too much.
        int[] on = {0, 1, 1, 2};
        for (int i = 0; i < 4; i++) {
            due("pack(4, " + i + ")", x.pack(4, i), on[i]);
        }
        due("pack(3, 2)", x.pack(3, 2), 1);
    }

    @Sentence(promise = 24, says = "PACKED: the first n PIECES each on one of the HORSES (those on them aside), so that the greatest weight of these on one HORSE is least; of like ones the lowest HORSE of PIECE 0, then of 1, ...")
    void thoseOnThemAside() {
        ClothesHorses x = with(9, 1);
        x.piece(0, 4, 3);
        x.piece(0, 9, 20);
        x.hour(4);
        x.peg(0, 1);
        x.peg(1, 1);
        due("HORSE 0 is in", x.of(0, 2), 1);
        due("pack(1, NONE)", x.pack(1, NONE), 7);
        due("pack(1, 0)", x.pack(1, 0), 0);
        due("pack(2, NONE)", x.pack(2, NONE), 29);
        due("pack(2, 1)", x.pack(2, 1), 1);
        x.sock(0, 1);
        due("as wet as they are", x.pack(1, NONE), 8);
        due("nothing is done", x.of(1, 3), 3);
    }

    @Sentence(promise = 25, says = "ODDS told: true.")
    void oddsOfTheFirstAndTheLast() {
        ClothesHorses x = with(1);
        due("odds(0, 2)", x.odds(0, 2), true);
        due("sure(20, NONE)", x.sure(20, NONE), 20);
        due("odds(0, 20)", x.odds(0, 20), true);
        due("sure(20, NONE)", x.sure(20, NONE), 2);
        due("told anew", x.odds(0, 3), true);
        due("sure(20, NONE)", x.sure(20, NONE), 10);
    }

    @Sentence(promise = 25, says = "False for others (HORSES 0 .. 4, there or not; 2 .. 20).")
    void otherOdds() {
        ClothesHorses x = with(1);
        refused(x, "odds", 0, a -> bit(x.odds(a[0], a[1])), of(-1, 2), of(5, 2), of(MIN, 2), of(MAX, 2), of(0, 1), of(0, 0),
            of(0, 21), of(0, -2), of(0, MIN), of(0, MAX), of(-1, 1), of(5, 21));
    }

    @Sentence(promise = 25, says = "False for others (HORSES 0 .. 4, there or not; 2 .. 20).")
    void oddsOfHorsesThatAreNotThere() {
        ClothesHorses x = new ClothesHorses();
        for (int horse = 0; horse < 5; horse++) {
            due("odds(" + horse + ", 20)", x.odds(horse, 20), true);
        }
        for (int i = 0; i < 5; i++) {
            x.horse(1);
        }
        // S and 20, by twenties, on five HORSES: 10 and 20 are 30, two on each.
        due("sure(20, NONE)", x.sure(20, NONE), 10);
        for (int horse = 0; horse < 5; horse++) {
            due("sure(20, " + horse + ")", x.sure(20, horse), 2);
        }
    }

    @Sentence(promise = 26, says = "A SURE BOOK: the stakes together (horse NONE), the stake on a HORSE.")
    void stakesTogetherAndOnEach() {
        ClothesHorses x = with(1, 1);
        x.odds(0, 2);
        // 5 and 1 are 6: 3 by 2 and 2 by 3.
        due("sure(1, NONE)", x.sure(1, NONE), 5);
        due("sure(1, 0)", x.sure(1, 0), 3);
        due("sure(1, 1)", x.sure(1, 1), 2);
        due("sure(20, NONE)", x.sure(20, NONE), 100);
        due("sure(20, 0)", x.sure(20, 0), 60);
        due("sure(20, 1)", x.sure(20, 1), 40);
    }

    @Sentence(promise = 26, says = "NONE: none, and for others (gain 1 .. 20).")
    void otherSureBooks() {
        ClothesHorses none = new ClothesHorses();
        each("without HORSES sure", NONE, a -> none.sure(a[0], a[1]), of(1, NONE), of(1, 0), of(20, NONE));
        ClothesHorses x = with(1, 1);
        each("sure", NONE, a -> x.sure(a[0], a[1]), of(0, NONE), of(21, NONE), of(-1, NONE), of(MIN, NONE), of(MAX, NONE), of(1, 2),
            of(1, 4), of(1, 5), of(1, -2), of(1, MIN), of(1, MAX), of(0, 0), of(21, 1));
    }

    @Sentence(promise = 26, says = "NONE: none, and for others (gain 1 .. 20).")
    void noSureBook() {
        ClothesHorses x = with(1, 1, 1);
        // Thrice a third is all: nothing is left to gain.
        for (int gain = 1; gain <= 20; gain++) {
            due("sure(" + gain + ", NONE)", x.sure(gain, NONE), NONE);
            due("sure(" + gain + ", 0)", x.sure(gain, 0), NONE);
        }
        x.odds(2, 4);
        due("with odds of 3, 3 and 4: sure(1, NONE)", x.sure(1, NONE), 11);
    }

    @Sentence(promise = 26, says = "A SURE BOOK: ODDS (told for HORSES 0 .. 4, 2 .. 20: what one has back for 1; at first 3): the least stakes together (500 at most; whole ones on each HORSE there is), by which one has gain more back than all stakes, whichever of them wins: just as much on each as it needs; none, or no HORSE.")
    void fiveHundredAtMost() {
        // 520 by 2, 4, 9 and 10: 260, 130, 58 (522) and 52 are 500.
        int[] odds = {2, 4, 9, 10};
        int[] stakes = {260, 130, 58, 52};
        ClothesHorses x = with(1, 1, 1, 1);
        for (int horse = 0; horse < 4; horse++) {
            x.odds(horse, odds[horse]);
        }
        due("sure(20, NONE)", x.sure(20, NONE), 500);
        for (int horse = 0; horse < 4; horse++) {
            due("sure(20, " + horse + ")", x.sure(20, horse), stakes[horse]);
        }
        // 512 by 2, 4, 8, 19 and 20: 256, 128, 64, 27 and 26 are 501.
        int[] more = {2, 4, 8, 19, 20};
        ClothesHorses y = with(1, 1, 1, 1, 1);
        for (int horse = 0; horse < 5; horse++) {
            y.odds(horse, more[horse]);
        }
        due("501 are too many", y.sure(11, NONE), NONE);
        due("sure(11, 0)", y.sure(11, 0), NONE);
        due("with less to gain", y.sure(10, NONE) > 0, true);
    }

    @Sentence(promise = 26, says = "A SURE BOOK: ODDS (told for HORSES 0 .. 4, 2 .. 20: what one has back for 1; at first 3): the least stakes together (500 at most; whole ones on each HORSE there is), by which one has gain more back than all stakes, whichever of them wins: just as much on each as it needs; none, or no HORSE.")
    void theLeastStakes() {
        ClothesHorses x = with(1);
        due("by 3 at first: 1 for 3", x.sure(2, NONE), 1);
        due("2 for 6", x.sure(3, NONE), 2);
        for (int odds = 2; odds <= 20; odds++) {
            x.odds(0, odds);
            for (int gain = 1; gain <= 20; gain++) {
                int stake = (gain + odds - 2) / (odds - 1);
                due("odds " + odds + ": sure(" + gain + ", NONE)", x.sure(gain, NONE), stake);
                due("odds " + odds + ": sure(" + gain + ", 0)", x.sure(gain, 0), stake);
            }
            x = with(1);
        }
    }

    @Sentence(promise = 36, says = "SEEN: how many there are (n NONE: none any more).")
    void seenNoneAndSix() {
        ClothesHorses x = new ClothesHorses();
        due("none to forget", x.see(NONE, 0), 0);
        int[][] seen = {{1, 0}, {12, 11}, {1, 11}, {12, 0}, {1, 0}, {6, 5}};
        for (int i = 0; i < 6; i++) {
            due("see(" + seen[i][0] + ", " + seen[i][1] + ")", x.see(seen[i][0], seen[i][1]), i + 1);
            due("about(5)", x.about(5), i + 1);
        }
        due("see(NONE, 0)", x.see(NONE, 0), 0);
        due("about(5)", x.about(5), 0);
        due("from the first on", x.see(1, 1), 1);
        due("whatever the CELL is", x.see(NONE, 12), 0);
        due("about(5)", x.about(5), 0);
    }

    @Sentence(promise = 36, says = "-2 for others (n 1 .. 12), or if there are 6.")
    void otherSights() {
        ClothesHorses x = with(1);
        x.see(1, 2);
        refused(x, "see", OTHERS, a -> x.see(a[0], a[1]), of(0, 0), of(13, 0), of(-2, 0), of(MIN, 0), of(MAX, 0), of(1, -1), of(1, 12),
            of(1, MIN), of(1, MAX), of(0, -1), of(13, 12));
        due("nobbled(0, 1) by what is SEEN", x.nobbled(0, 1), 1);
    }

    @Sentence(promise = 36, says = "-2 for others (n 1 .. 12), or if there are 6.")
    void aSeventhSight() {
        ClothesHorses x = with(1);
        for (int i = 0; i < 6; i++) {
            x.see(1, 2);
        }
        refused(x, "see", OTHERS, a -> x.see(a[0], a[1]), of(1, 2), of(1, 0), of(12, 11), of(0, 0));
        due("the seventh doesn't count", x.nobbled(0, 1), 1);
    }

    @Sentence(promise = 37, says = "NOBBLED: 0 in how many ways, 1 whether it could be without (1, 0), 2 the lowest way (NONE: none).")
    void allWaysAndNoWay() {
        ClothesHorses x = with(1);
        due("nothing SEEN: all ways", x.nobbled(0, 0), 30);
        due("and without", x.nobbled(0, 1), 1);
        due("the lowest", x.nobbled(0, 2), 1);
        x.see(1, 11);
        due("nobbled(0, 0)", x.nobbled(0, 0), 0);
        due("nobbled(0, 1)", x.nobbled(0, 1), 0);
        due("nobbled(0, 2)", x.nobbled(0, 2), NONE);
        x.see(NONE, 0);
        x.see(4, 8);
        x.see(4, 7);
        due("two CELLS at once", x.nobbled(0, 0), 0);
    }

    @Sentence(promise = 37, says = "-2 for others.")
    void otherNobblings() {
        ClothesHorses none = new ClothesHorses();
        each("nobbled", OTHERS, a -> none.nobbled(a[0], a[1]), of(0, 0), of(0, 1), of(0, 2));
        ClothesHorses x = with(1, 1);
        each("nobbled", OTHERS, a -> x.nobbled(a[0], a[1]), of(2, 0), of(-1, 0), of(4, 1), of(5, 2), of(MIN, 0), of(MAX, 0), of(0, 3),
            of(0, -1), of(0, MIN), of(0, MAX));
    }

    /** A HORSE with nothing on it that goes by its load, so that the sock alone moves it. */
    private ClothesHorses moved(String paces, int... seen) {
        ClothesHorses x = ruled("paces " + paces + ";", 1);
        for (int i = 0; i < seen.length; i += 2) {
            x.see(seen[i], seen[i + 1]);
        }
        return x;
    }

    private void ways(ClothesHorses x, int ways, int without, int lowest) {
        due("nobbled(0, 0)", x.nobbled(0, 0), ways);
        due("nobbled(0, 1)", x.nobbled(0, 1), without);
        due("nobbled(0, 2)", x.nobbled(0, 2), lowest);
    }

    @Sentence(promise = 37, says = "with a sock that makes its weight 1 .. 5 more for paces alone, from the HOUR behind t (0 .. 5) others on: in how many such ways (t, sock) all SEEN is so; whether it is so without a sock; the lowest t, then the lowest sock (10 times t, and the sock).")
    void socksOfOneToFive() {
        for (int sock = 0; sock <= 6; sock++) {
            ClothesHorses x = moved("if load=" + sock + " then 1 else 0 end", 1, 1);
            if (sock == 0) {
                // Not in the first HOUR: t is 1 .. 5, with any sock.
                ways(x, 25, 1, 11);
            } else {
                ways(x, sock == 6 ? 0 : 1, 0, sock == 6 ? NONE : sock);
            }
        }
    }

    @Sentence(promise = 37, says = "with a sock that makes its weight 1 .. 5 more for paces alone, from the HOUR behind t (0 .. 5) others on: in how many such ways (t, sock) all SEEN is so; whether it is so without a sock; the lowest t, then the lowest sock (10 times t, and the sock).")
    void behindNoneToFiveOthers() {
        ways(moved("load", 1, 3), 3, 0, 3);
        for (int t = 1; t <= 6; t++) {
            // Nothing behind t HOURS, 3 behind one more: a sock of 3, 4 or 5.
            ways(moved("load", t, 0, t + 1, 3), t == 6 ? 0 : 3, 0, t == 6 ? NONE : 10 * t + 3);
        }
        ways(moved("load", 12, 0), 0, 1, NONE);
        // By ones: CELL 12 - t behind 12 HOURS, 11 at most; by twos and threes CELL 11.
        ways(moved("load", 12, 7), 1, 0, 51);
        ways(moved("load", 12, 8), 1, 0, 41);
        ways(moved("load", 12, 11), 26, 0, 1);
    }

    @Sentence(promise = 37, says = "with a sock that makes its weight 1 .. 5 more for paces alone, from the HOUR behind t (0 .. 5) others on: in how many such ways (t, sock) all SEEN is so; whether it is so without a sock; the lowest t, then the lowest sock (10 times t, and the sock).")
    void forPacesAlone() {
        ClothesHorses x = ruled("dries if load>2 then 9 else 0 end;paces if load=6 then 1 else 0 end;", 1);
        x.piece(0, 1, 1);
        x.peg(0, 0);
        x.see(1, 1);
        // Were the sock for dries, too, the PIECE would be dry, and a sock of 5 would make it 6.
        ways(x, 1, 0, 4);
    }

    @Sentence(promise = 37, says = "NOBBLED: SEEN (6 at most; told: behind n HOURS the HORSE was in a CELL): a HORSE that begins in CELL 0, HOUR, SUN being as now in all HOURS, PIECES as they are now drying by dries ahead of each going on, shedding nothing,")
    void fromTheFirstCell() {
        ClothesHorses x = with(9);
        x.see(1, 3);
        x.see(3, 9);
        x.see(4, 11);
        x.see(12, 11);
        ways(x, 30, 1, 1);
        x.hour(4);
        due("it is in", x.of(0, 2), 1);
        ways(x, 30, 1, 1);
        due("of(0, 1)", x.of(0, 1), 11);
    }

    @Sentence(promise = 37, says = "NOBBLED: SEEN (6 at most; told: behind n HOURS the HORSE was in a CELL): a HORSE that begins in CELL 0, HOUR, SUN being as now in all HOURS, PIECES as they are now drying by dries ahead of each going on, shedding nothing,")
    void hourAndSunAreAsNow() {
        ClothesHorses x = ruled("paces if hour=2 then 1 else 0 end;", 1);
        x.see(12, 0);
        due("HOUR 0", x.nobbled(0, 1), 1);
        x.hour(2);
        due("HOUR 2", x.nobbled(0, 1), 0);
        x.see(NONE, 0);
        x.see(12, 11);
        x.see(3, 3);
        due("HOUR 2 in all of them", x.nobbled(0, 1), 1);
        ClothesHorses y = ruled("paces sun;", 1);
        y.see(12, 0);
        due("SUN 0 in all of them", y.nobbled(0, 1), 1);
    }

    @Sentence(promise = 37, says = "NOBBLED: SEEN (6 at most; told: behind n HOURS the HORSE was in a CELL): a HORSE that begins in CELL 0, HOUR, SUN being as now in all HOURS, PIECES as they are now drying by dries ahead of each going on, shedding nothing,")
    void dryingAheadOfEachGoingOn() {
        // 21, then 20, 19, 18 ..: below 20 it goes by 2, not by 1. With sheds 10 nothing is shed.
        ClothesHorses x = ruled("sheds 10;", 1);
        x.piece(0, 9, 12);
        x.peg(0, 0);
        x.see(1, 1);
        x.see(2, 3);
        x.see(3, 5);
        due("nobbled(0, 1)", x.nobbled(0, 1), 1);
        // A sock of 1 in the second HOUR would make it 20, in the third it makes no odds.
        due("nobbled(0, 2)", x.nobbled(0, 2), 21);
        due("it is as wet as it was", x.ofPiece(0, 2), 12);
        due("and on it", x.of(0, 3), 1);
    }

    @Sentence(promise = 38, says = "DRY: in how many HOURS.")
    void inSoManyHours() {
        ClothesHorses x = with(1, 1);
        due("nothing on it", x.dry(0), 0);
        x.piece(0, 1, 0);
        x.piece(0, 1, 1);
        x.piece(0, 1, 20);
        x.peg(0, 0);
        due("dry", x.dry(0), 0);
        x.peg(1, 0);
        due("WET 1, by 1", x.dry(0), 1);
        x.peg(2, 0);
        due("WET 20, by 1", x.dry(0), 20);
        x.wind(0, 5);
        due("by 2", x.dry(0), 10);
        due("the other one", x.dry(1), 0);
    }

    @Sentence(promise = 38, says = "NONE: not in 60, and for others.")
    void otherHorsesToDry() {
        ClothesHorses none = new ClothesHorses();
        each("dry", NONE, a -> none.dry(a[0]), ones(0, -1, 4));
        ClothesHorses x = with(1, 1);
        each("dry", NONE, a -> x.dry(a[0]), ones(2, -1, -2, 4, 5, MIN, MAX));
    }

    @Sentence(promise = 38, says = "NONE: not in 60, and for others.")
    void inSixtyAndInSixtyOne() {
        due("never", dryIn("dries 0;", 1), NONE);
        String oneByOne = "dries if weight=9 or weight=1 and load<=75 or weight=2 and load<=55 or weight=3 and load<=35"
            + " then 1 else 0 end;";
        // 75 is all but what PIECE 3 has, which dries first; then WEIGHTS 1, 2 and 3 dry by turns, 20 HOURS each.
        due("60", dryIn(oneByOne, 0), 60);
        due("61", dryIn(oneByOne, 1), NONE);
    }

    private int dryIn(String law, int wet) {
        ClothesHorses x = ruled(law, 1);
        x.piece(0, 3, 20);
        x.piece(0, 2, 20);
        x.piece(0, 1, 20);
        x.piece(0, 9, wet);
        for (int i = 0; i < 4; i++) {
            x.peg(i, 0);
        }
        return x.dry(0);
    }

    @Sentence(promise = 38, says = "DRY: in how many HOURS (0 .. 60; HOUR, SUN being as now in all of them, the HORSE not going on and shedding nothing) all PIECES on a HORSE are dry.")
    void allIsAsNow() {
        ClothesHorses x = ruled("dries hour;paces 3;sheds 10;", 1);
        x.piece(0, 1, 20);
        x.peg(0, 0);
        due("HOUR 0", x.dry(0), NONE);
        x.hour(3);
        x.peg(0, 0);
        due("HOUR 3", x.dry(0), 7);
        due("it shed nothing by that", x.of(0, 3), 1);
        ClothesHorses y = ruled("paces 3;dries if cell=0 then 1 else 9 end;sheds 0;", 1);
        y.piece(0, 1, 20);
        y.peg(0, 0);
        due("it doesn't go on", y.dry(0), 20);
        ClothesHorses z = ruled("dries sun;", 1);
        z.piece(0, 1, 20);
        z.peg(0, 0);
        due("SUN 0", z.dry(0), NONE);
        z.hour(1);
        due("SUN 7", z.ofPiece(0, 2) == 13 && z.dry(0) == 2, true);
        passTo(z, 9999);
        z.start();
        z.sock(0, 20);
        rule(z, "dries 2;");
        z.peg(0, 0);
        due("at 9999, too", z.dry(0), 10);
    }

    @Sentence(promise = 39, says = "SAID: how many there are (piece NONE: none any more).")
    void saidNoneAndEight() {
        ClothesHorses x = with(1);
        due("none to forget", x.said(NONE, 0), 0);
        for (int i = 0; i < 10; i++) {
            x.piece(0, 1, 1);
        }
        for (int i = 0; i < 8; i++) {
            due("said", x.said(i == 7 ? 9 : i, i % 2 * 20), i + 1);
            due("about(6)", x.about(6), i + 1);
        }
        due("said(NONE, 0)", x.said(NONE, 0), 0);
        due("about(6)", x.about(6), 0);
        due("from the first on", x.said(0, 0), 1);
        due("whatever dries are", x.said(NONE, 21), 0);
        due("about(6)", x.about(6), 0);
    }

    @Sentence(promise = 39, says = "-2 for others, or if there are 8.")
    void otherSayings() {
        ClothesHorses none = with(1);
        each("without PIECES said", OTHERS, a -> none.said(a[0], a[1]), of(0, 0), of(9, 0));
        ClothesHorses x = with(1);
        x.piece(0, 1, 1);
        x.piece(0, 1, 1);
        refused(x, "said", OTHERS, a -> x.said(a[0], a[1]), of(2, 0), of(9, 0), of(10, 0), of(-2, 0), of(MIN, 0), of(MAX, 0), of(0, -1),
            of(0, 21), of(0, MIN), of(0, MAX), of(2, 21));
    }

    @Sentence(promise = 39, says = "-2 for others, or if there are 8.")
    void aNinthSaying() {
        ClothesHorses x = ruled("dries 1;", 1);
        x.piece(0, 1, 1);
        x.peg(0, 0);
        for (int i = 0; i < 8; i++) {
            x.said(0, 1);
        }
        refused(x, "said", OTHERS, a -> x.said(a[0], a[1]), of(0, 1), of(0, 5), of(0, 21));
        due("the ninth doesn't count", x.whose(), 1);
    }

    @Sentence(promise = 40, says = "WHOSE LAW (bits).")
    void lawsOfNoneAndOfFour() {
        ClothesHorses x = with(1);
        due("without TEXTS", x.whose(), 0);
        for (int i = 0; i < 4; i++) {
            Checks.text(x, "dries " + (i + 1) + ";");
            due("nothing SAID: all of them", x.whose(), (2 << i) - 1);
        }
        x.piece(0, 1, 1);
        x.peg(0, 0);
        for (int i = 0; i < 4; i++) {
            x.said(NONE, 0);
            x.said(0, i + 1);
            due("dries " + (i + 1), x.whose(), 1 << i);
        }
        x.said(0, 1);
        due("two that can't both be", x.whose(), 0);
    }

    @Sentence(promise = 40, says = "WHOSE LAW (told: SAID, 8 at most: a PIECE, dries 0 .. 20): TEXTS (bits) by whose dries all are so (as now; those on the grass aside).")
    void thoseOnTheGrassAside() {
        ClothesHorses x = with(1);
        Checks.text(x, "dries stuff*20;");
        Checks.text(x, "dries 21;");
        Checks.text(x, "dries -1;");
        x.piece(1, 1, 1);
        x.piece(0, 1, 1);
        x.said(0, 20);
        x.said(1, 0);
        due("both on the grass", x.whose(), 7);
        x.peg(0, 0);
        due("20 at most", x.whose(), 3);
        x.peg(1, 0);
        due("and 0", x.whose(), 1);
        x.by(2);
        due("whoever rules", x.whose(), 1);
        x.undo();
        due("on the grass again", x.whose(), 3);
    }

    @Sentence(promise = 40, says = "WHOSE LAW (told: SAID, 8 at most: a PIECE, dries 0 .. 20): TEXTS (bits) by whose dries all are so (as now; those on the grass aside).")
    void asNow() {
        ClothesHorses x = with(1);
        Checks.text(x, "dries hour;");
        Checks.text(x, "dries wet;");
        Checks.text(x, "paces 1;");
        x.piece(0, 1, 2);
        x.peg(0, 0);
        x.said(0, 2);
        due("WET 2; without dries it is 1 and a fifth of 4", x.whose(), 2);
        x.wind(0, 5);
        due("a fifth of 5", x.whose(), 6);
        x.sock(0, 1);
        due("WET 3", x.whose(), 4);
        x.hour(2);
        x.start();
        due("HOUR 2", x.whose() & 1, 1);
    }
}
