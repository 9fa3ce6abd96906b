/** Promises 27 to 35: beatings, rankings, kings, rings, heats and strengths. */
final class BeatingEdges extends Edges {
    /** Tells how often each HORSE (a row) beat each other one. */
    private static void beatings(ClothesHorses x, int[]... rows) {
        for (int a = 0; a < rows.length; a++) {
            for (int b = 0; b < rows[a].length; b++) {
                x.beat(a, b, rows[a][b]);
            }
        }
    }

    private void order(ClothesHorses x, int upsets, int... horses) {
        due("ranking(NONE)", x.ranking(NONE), upsets);
        for (int i = 0; i < horses.length; i++) {
            due("ranking(" + i + ")", x.ranking(i), horses[i]);
        }
    }

    @Sentence(promise = 27, says = "BEATEN: true.")
    void beatenNeverAndNinetyNineTimes() {
        ClothesHorses x = with(1, 1);
        due("beat(1, 0, 99)", x.beat(1, 0, 99), true);
        order(x, 0, 1, 0);
        due("beat(0, 1, 98)", x.beat(0, 1, 98), true);
        order(x, 98, 1, 0);
        due("beat(0, 1, 99)", x.beat(0, 1, 99), true);
        order(x, 99, 0, 1);
        due("told anew: beat(1, 0, 0)", x.beat(1, 0, 0), true);
        order(x, 0, 0, 1);
    }

    @Sentence(promise = 27, says = "False for others (HORSES 0 .. 4, unlike ones; 0 .. 99).")
    void otherBeatings() {
        ClothesHorses x = with(1, 1);
        refused(x, "beat", 0, a -> bit(x.beat(a[0], a[1], a[2])), of(-1, 0, 1), of(5, 0, 1), of(MIN, 0, 1), of(MAX, 0, 1), of(0, -1, 1),
            of(0, 5, 1), of(0, MIN, 1), of(0, MAX, 1), of(0, 1, -1), of(0, 1, 100), of(0, 1, MIN), of(0, 1, MAX));
    }

    @Sentence(promise = 27, says = "False for others (HORSES 0 .. 4, unlike ones; 0 .. 99).")
    void itself() {
        ClothesHorses x = with(1, 1);
        for (int horse = 0; horse < 5; horse++) {
            due("beat(" + horse + ", " + horse + ", 1)", x.beat(horse, horse, 1), false);
            due("beat(" + horse + ", " + horse + ", 0)", x.beat(horse, horse, 0), false);
        }
        order(x, 0, 0, 1);
    }

    @Sentence(promise = 27, says = "False for others (HORSES 0 .. 4, unlike ones; 0 .. 99).")
    void horsesThatAreNotThere() {
        ClothesHorses x = new ClothesHorses();
        for (int a = 0; a < 5; a++) {
            for (int b = 0; b < 5; b++) {
                due("beat(" + a + ", " + b + ", 7)", x.beat(a, b, 7), a != b);
            }
        }
        x.beat(4, 3, 8);
        order(x, 0);
        x.horse(1);
        order(x, 0, 0);
        x.horse(1);
        order(x, 7, 0, 1);
        x.horse(1);
        x.horse(1);
        x.horse(1);
        order(x, 70, 0, 1, 2, 4, 3);
    }

    @Sentence(promise = 28, says = "A RANKING: UPSETS (i NONE), the i-th HORSE.")
    void rankingsOfNoneToFive() {
        ClothesHorses x = new ClothesHorses();
        order(x, 0);
        for (int n = 1; n <= 5; n++) {
            x.horse(1);
            due("ranking(NONE)", x.ranking(NONE), 0);
            for (int i = 0; i < n; i++) {
                due("ranking(" + i + ")", x.ranking(i), i);
            }
        }
    }

    @Sentence(promise = 28, says = "-2 for others.")
    void otherPlaces() {
        ClothesHorses none = new ClothesHorses();
        each("without HORSES ranking", OTHERS, a -> none.ranking(a[0]), ones(0, 1, -2, MIN, MAX));
        ClothesHorses x = with(1, 1);
        each("ranking", OTHERS, a -> x.ranking(a[0]), ones(2, 4, 5, -2, MIN, MAX));
    }

    @Sentence(promise = 28, says = "A RANKING of HORSES: BEATEN (told for pairs: how often a came in ahead of b, 0 .. 99; at first 0): the order of all HORSES with fewest UPSETS (how often one behind beat one ahead, together); of like ones the lowest first HORSE, then the next, ...")
    void theFewestUpsets() {
        ClothesHorses x = with(1, 1, 1, 1, 1);
        // Each beat those of lower numbers 99 times, and was beaten 98 times.
        beatings(x, of(0, 98, 98, 98, 98), of(99, 0, 98, 98, 98), of(99, 99, 0, 98, 98), of(99, 99, 99, 0, 98), of(99, 99, 99, 99, 0));
        order(x, 980, 4, 3, 2, 1, 0);
        x.beat(0, 4, 99);
        order(x, 981, 4, 3, 2, 1, 0);
        x.beat(4, 0, 0);
        // 0 ahead of 4 saves 99 behind it and costs one for each of the others between: 0 4 3 2 1.
        order(x, 98 * 6 + 99 * 3, 0, 4, 3, 2, 1);
    }

    @Sentence(promise = 28, says = "A RANKING of HORSES: BEATEN (told for pairs: how often a came in ahead of b, 0 .. 99; at first 0): the order of all HORSES with fewest UPSETS (how often one behind beat one ahead, together); of like ones the lowest first HORSE, then the next, ...")
    void ofLikeOrdersTheLowest() {
        ClothesHorses x = with(1, 1, 1, 1);
        // A ring of three: 0 beat 1, 1 beat 2, 2 beat 0: one upset in 0 1 2, 1 2 0 and 2 0 1.
        x.beat(0, 1, 1);
        x.beat(1, 2, 1);
        x.beat(2, 0, 1);
        order(x, 1, 0, 1, 2, 3);
        x.beat(3, 0, 1);
        // 3 must be ahead of 0: 1 2 3 0 has the one upset of 0 that beat 1; so has 3 0 1 2, that of 2.
        order(x, 1, 1, 2, 3, 0);
        x.beat(0, 3, 1);
        order(x, 2, 0, 1, 2, 3);
    }

    @Sentence(promise = 29, says = "KINGS (bits).")
    void kingsOfNoneOneAndTwo() {
        ClothesHorses x = new ClothesHorses();
        due("without HORSES", x.kings(), 0);
        x.horse(1);
        due("one alone", x.kings(), 1);
        x.horse(1);
        due("two like ones", x.kings(), 0);
        x.beat(1, 0, 1);
        due("kings()", x.kings(), 2);
        x.beat(0, 1, 1);
        due("as often as it was beaten", x.kings(), 0);
        x.beat(0, 1, 2);
        due("kings()", x.kings(), 1);
    }

    @Sentence(promise = 29, says = "One is better than another one, if it beat it more often than it was beaten.")
    void betterByOne() {
        ClothesHorses x = with(1, 1);
        x.beat(0, 1, 98);
        x.beat(1, 0, 99);
        due("98 and 99", x.kings(), 2);
        x.beat(0, 1, 99);
        due("99 and 99", x.kings(), 0);
        x.beat(1, 0, 98);
        due("99 and 98", x.kings(), 1);
    }

    @Sentence(promise = 29, says = "KINGS: HORSES (bits) that are better than each other one, or than one that is better than that.")
    void kingsOverOneAndOverTwo() {
        ClothesHorses x = with(1, 1, 1, 1, 1);
        for (int i = 0; i < 4; i++) {
            x.beat(i, i + 1, 1);
        }
        due("0 is better than 1, but 3 is too far from it", x.kings(), 0);
        x.beat(0, 3, 1);
        due("0 by way of 1 and 3", x.kings(), 1);
        x.beat(4, 0, 1);
        due("4 is better than 0, but not by way of one than 2", x.kings(), 1);
        x.beat(4, 2, 1);
        due("4, too", x.kings(), 17);
        for (int i = 0; i < 5; i++) {
            x.beat(4, i, 9);
        }
        due("4 alone", x.kings(), 16);
    }

    @Sentence(promise = 30, says = "RINGS.")
    void ringsOfTooFewAndOfFive() {
        ClothesHorses x = new ClothesHorses();
        for (int i = 0; i < 5; i++) {
            x.beat(i, (i + 1) % 5, 1);
            x.beat(i, (i + 2) % 5, 1);
        }
        // Each is better than the two behind it, round and round: 0 1 3, 2 3 0, and with HORSE 4 1 2 4, 3 4 1, 4 0 2.
        int[] rings = {0, 0, 0, 0, 2, 5};
        for (int n = 0; n <= 5; n++) {
            due("rings() of " + n, x.rings(), rings[n]);
            x.horse(1);
        }
    }

    @Sentence(promise = 30, says = "RINGS: how many sets of three there are, of which each is better than one and worse than the other one.")
    void bothWaysRoundAndLikeOnes() {
        ClothesHorses x = with(1, 1, 1);
        due("none is better", x.rings(), 0);
        x.beat(0, 1, 1);
        x.beat(1, 2, 1);
        due("2 and 0 are like ones", x.rings(), 0);
        x.beat(2, 0, 1);
        due("rings()", x.rings(), 1);
        x.beat(0, 2, 1);
        due("like ones again", x.rings(), 0);
        x.beat(0, 2, 2);
        due("0 is better than both", x.rings(), 0);
        x.beat(1, 0, 2);
        x.beat(2, 1, 2);
        due("the other way round", x.rings(), 1);
    }

    @Sentence(promise = 31, says = "HEATS: how many (i NONE), the i-th (bits).")
    void heatsOfAllInOne() {
        ClothesHorses x = with(1, 1);
        due("heats(2, NONE)", x.heats(2, NONE), 1);
        due("heats(2, 0)", x.heats(2, 0), 3);
        x.horse(1);
        due("heats(3, NONE)", x.heats(3, NONE), 1);
        due("heats(3, 0)", x.heats(3, 0), 7);
        x.horse(1);
        due("heats(4, NONE)", x.heats(4, NONE), 1);
        due("heats(4, 0)", x.heats(4, 0), 15);
    }

    @Sentence(promise = 31, says = "-2 for others (2 .. 4, no more than HORSES), or if there is none such.")
    void otherHeats() {
        for (int n = 0; n <= 5; n++) {
            ClothesHorses x = new ClothesHorses();
            for (int i = 0; i < n; i++) {
                x.horse(1);
            }
            each("of " + n + " heats", OTHERS, a -> x.heats(a[0], a[1]), of(0, NONE), of(1, NONE), of(5, NONE), of(-1, NONE),
                of(MIN, NONE), of(MAX, NONE), of(1, 0), of(5, 0));
            for (int size = 2; size <= 4; size++) {
                due("of " + n + " heats(" + size + ", NONE)", x.heats(size, NONE) == OTHERS, size > n);
                due("of " + n + " heats(" + size + ", 0)", x.heats(size, 0) == OTHERS, size > n);
            }
        }
    }

    @Sentence(promise = 31, says = "-2 for others (2 .. 4, no more than HORSES), or if there is none such.")
    void noSuchHeat() {
        ClothesHorses x = with(1, 1, 1, 1, 1);
        int[] many = {10, 4, 3};
        for (int size = 2; size <= 4; size++) {
            int n = many[size - 2];
            int s = size;
            due("heats(" + size + ", NONE)", x.heats(size, NONE), n);
            due("the last", x.heats(size, n - 1) > 0, true);
            each("heats", OTHERS, a -> x.heats(a[0], a[1]), of(s, n), of(s, n + 1), of(s, -2), of(s, MIN), of(s, MAX));
        }
    }

    @Sentence(promise = 31, says = "HEATS: the fewest sets of so many HORSES, in which each two meet once at least; of like ones the lowest set of all sets (each by its bits) first, then the next, ...")
    void theFewestAndTheLowestSets() {
        int[][][] heats = {
            {{3}}, {{3, 5, 6}, {7}}, {{3, 5, 6, 9, 10, 12}, {7, 11, 13}, {15}},
            {{3, 5, 6, 9, 10, 12, 17, 18, 20, 24}, {7, 11, 19, 28}, {15, 23, 27}}};
        ClothesHorses x = with(1);
        for (int n = 2; n <= 5; n++) {
            x.horse(1);
            for (int size = 2; size <= Math.min(4, n); size++) {
                int[] sets = heats[n - 2][size - 2];
                due("of " + n + " heats(" + size + ", NONE)", x.heats(size, NONE), sets.length);
                for (int i = 0; i < sets.length; i++) {
                    due("of " + n + " heats(" + size + ", " + i + ")", x.heats(size, i), sets[i]);
                }
                due("each two meet", meetings(x, n, size), n * (n - 1) / 2);
            }
        }
    }

    private static int meetings(ClothesHorses x, int n, int size) {
        int met = 0;
        for (int a = 0; a < n; a++) {
            for (int b = a + 1; b < n; b++) {
                boolean meet = false;
                for (int i = 0; i < x.heats(size, NONE) && !meet; i++) {
                    int set = x.heats(size, i);
                    meet = (set >> a & set >> b & 1) == 1;
                }
                met += meet ? 1 : 0;
            }
        }
        return met;
    }

    @Sentence(promise = 32, says = "STRENGTH: true.")
    void strengthsOfOneAndTwenty() {
        ClothesHorses x = with(1, 1);
        due("strength(0, 20)", x.strength(0, 20), true);
        due("first(0, false)", x.first(0, false), 20);
        due("first(0, true)", x.first(0, true), 21);
        due("told anew", x.strength(0, 1), true);
        due("first(0, true)", x.first(0, true), 2);
    }

    @Sentence(promise = 32, says = "False for others (HORSES 0 .. 4; 1 .. 20).")
    void otherStrengths() {
        ClothesHorses x = with(1, 1);
        refused(x, "strength", 0, a -> bit(x.strength(a[0], a[1])), of(-1, 1), of(5, 1), of(MIN, 1), of(MAX, 1), of(0, 0), of(0, 21),
            of(0, -1), of(0, MIN), of(0, MAX), of(5, 21));
    }

    @Sentence(promise = 32, says = "False for others (HORSES 0 .. 4; 1 .. 20).")
    void strengthsOfHorsesThatAreNotThere() {
        ClothesHorses x = new ClothesHorses();
        for (int horse = 0; horse < 5; horse++) {
            due("strength(" + horse + ", 20)", x.strength(horse, 20), true);
        }
        x.strength(4, 7);
        x.horse(1);
        due("those that aren't there don't count", x.first(0, true), 1);
        for (int i = 1; i < 5; i++) {
            x.horse(1);
        }
        due("first(4, false)", x.first(4, false), 7);
        due("first(4, true)", x.first(4, true), 87);
    }

    @Sentence(promise = 32, says = "STRENGTHS (told for HORSES 0 .. 4, 1 .. 20; at first 1): of HORSES that aren't in yet the next one comes in by its part of all their STRENGTHS: FIRST: how likely a HORSE is the first of all; ORDER: that a is the first, b the second one; AMONG TWO: that it is one of the first two; in lowest terms.")
    void strengthsAtFirst() {
        ClothesHorses x = new ClothesHorses();
        for (int n = 1; n <= 5; n++) {
            x.horse(1);
            for (int horse = 0; horse < n; horse++) {
                due("first(" + horse + ", false)", x.first(horse, false), 1);
                due("first(" + horse + ", true)", x.first(horse, true), n);
            }
            if (n > 1) {
                due("order(0, 1, false)", x.order(0, 1, false), 1);
                due("order(0, 1, true)", x.order(0, 1, true), n * (n - 1));
                due("two(0, false)", x.two(0, false), n % 2 == 0 ? 1 : 2);
                due("two(0, true)", x.two(0, true), n % 2 == 0 ? n / 2 : n);
            }
        }
    }

    @Sentence(promise = 33, says = "FIRST: the upper (low false), the lower one (low true).")
    void firstInLowestTerms() {
        ClothesHorses x = with(1, 1, 1, 1, 1);
        int[] strengths = {20, 20, 20, 20, 20};
        for (int i = 0; i < 5; i++) {
            x.strength(i, strengths[i]);
        }
        due("20 of 100: first(0, false)", x.first(0, false), 1);
        due("first(0, true)", x.first(0, true), 5);
        x.strength(4, 19);
        due("20 of 99: first(0, false)", x.first(0, false), 20);
        due("first(0, true)", x.first(0, true), 99);
        due("19 of 99: first(4, false)", x.first(4, false), 19);
        ClothesHorses one = with(1);
        one.strength(0, 20);
        due("one alone", one.first(0, false) * 10 + one.first(0, true), 11);
        x.hour(60);
        due("whoever is in: first(0, true)", x.first(0, true), 99);
    }

    @Sentence(promise = 33, says = "NONE for others.")
    void firstOfNoHorse() {
        ClothesHorses none = new ClothesHorses();
        each("first", NONE, a -> none.first(a[0], true) + none.first(a[0], false) + 1, ones(0, -1, 4));
        ClothesHorses x = with(1, 1);
        each("first", NONE, a -> x.first(a[0], true), ones(2, 4, 5, -1, -2, MIN, MAX));
        each("first", NONE, a -> x.first(a[0], false), ones(2, 4, 5, -1, -2, MIN, MAX));
    }

    @Sentence(promise = 34, says = "ORDER: the upper (low false), the lower one (low true).")
    void orderInLowestTerms() {
        ClothesHorses x = with(1, 1, 1, 1, 1);
        for (int i = 0; i < 5; i++) {
            x.strength(i, 20);
        }
        due("20/100 * 20/80: order(0, 4, false)", x.order(0, 4, false), 1);
        due("order(0, 4, true)", x.order(0, 4, true), 20);
        x.strength(0, 19);
        due("19/99 * 20/80: order(0, 4, false)", x.order(0, 4, false), 19);
        due("order(0, 4, true)", x.order(0, 4, true), 396);
        due("20/99 * 19/79: order(4, 0, false)", x.order(4, 0, false), 380);
        due("order(4, 0, true)", x.order(4, 0, true), 7821);
        ClothesHorses two = with(1, 1);
        two.strength(0, 20);
        due("of two the second is sure", two.order(0, 1, false) * 100 + two.order(0, 1, true), 2021);
    }

    @Sentence(promise = 34, says = "NONE for others.")
    void orderOfNoTwo() {
        ClothesHorses none = new ClothesHorses();
        each("order", NONE, a -> none.order(a[0], a[1], true), of(0, 1), of(0, 0));
        ClothesHorses x = with(1, 1);
        for (int low = 0; low <= 1; low++) {
            boolean lower = low == 1;
            each("order", NONE, a -> x.order(a[0], a[1], lower), of(0, 0), of(1, 1), of(0, 2), of(2, 0), of(2, 3), of(-1, 0), of(0, -1),
                of(0, 5), of(5, 0), of(MIN, 0), of(0, MAX), of(-1, -1));
        }
    }

    @Sentence(promise = 35, says = "AMONG TWO: the upper (low false), the lower one (low true).")
    void amongTwoInLowestTerms() {
        ClothesHorses x = with(1, 1);
        x.strength(0, 20);
        due("of two both are: two(1, false)", x.two(1, false), 1);
        due("two(1, true)", x.two(1, true), 1);
        x.horse(1);
        x.strength(0, 6);
        x.strength(1, 3);
        // 1/10 and 6/10 * 1/4 and 3/10 * 1/7 are 41/140.
        due("two(2, false)", x.two(2, false), 41);
        due("two(2, true)", x.two(2, true), 140);
        ClothesHorses five = with(1, 1, 1, 1, 1);
        for (int i = 0; i < 5; i++) {
            five.strength(i, 20);
        }
        due("two(4, false)", five.two(4, false), 2);
        due("two(4, true)", five.two(4, true), 5);
    }

    @Sentence(promise = 35, says = "AMONG TWO: the upper (low false), the lower one (low true).")
    void amongTwoOfTheStrongest() {
        int[] strengths = {20, 19, 18, 17, 16};
        ClothesHorses x = with(1, 1, 1, 1, 1);
        for (int i = 0; i < 5; i++) {
            x.strength(i, strengths[i]);
        }
        java.math.BigInteger together = java.math.BigInteger.ZERO;
        java.math.BigInteger scale = java.math.BigInteger.ONE;
        for (int i = 0; i < 5; i++) {
            scale = scale.multiply(java.math.BigInteger.valueOf(x.two(i, true)));
        }
        for (int i = 0; i < 5; i++) {
            long upper = x.two(i, false);
            long lower = x.two(i, true);
            due("in lowest terms", java.math.BigInteger.valueOf(upper).gcd(java.math.BigInteger.valueOf(lower)).longValue(), 1);
            due("upper below lower", upper < lower, true);
            together = together.add(scale.divide(java.math.BigInteger.valueOf(lower)).multiply(java.math.BigInteger.valueOf(upper)));
        }
        due("two are among two", together.equals(scale.multiply(java.math.BigInteger.TWO)), true);
        // Of HORSE 4, 16 parts of 90: 16/90 * (1 + 20/70 + 19/71 + 18/72 + 17/73).
        long lower = 90L * 70 * 71 * 72 * 73;
        long upper = 16 * (70L * 71 * 72 * 73 + 20L * 71 * 72 * 73 + 19L * 70 * 72 * 73 + 18L * 70 * 71 * 73 + 17L * 70 * 71 * 72);
        due("two(4)", x.two(4, false) * lower, x.two(4, true) * upper);
    }

    @Sentence(promise = 35, says = "NONE for others, or if there are not two HORSES.")
    void amongTwoOfOne() {
        ClothesHorses x = new ClothesHorses();
        due("without HORSES", x.two(0, false), NONE);
        x.horse(1);
        due("of one", x.two(0, false), NONE);
        due("of one", x.two(0, true), NONE);
        x.horse(1);
        due("of two", x.two(0, true), 1);
    }

    @Sentence(promise = 35, says = "NONE for others, or if there are not two HORSES.")
    void amongTwoOfNoHorse() {
        ClothesHorses x = with(1, 1);
        each("two", NONE, a -> x.two(a[0], true), ones(2, 4, 5, -1, -2, MIN, MAX));
        each("two", NONE, a -> x.two(a[0], false), ones(2, 4, 5, -1, -2, MIN, MAX));
    }
}
