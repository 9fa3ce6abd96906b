/** Promises 17 and 18, as far as laws answer there: what SUMS come to, and the limits of laws. */
final class LawEdges extends Edges {
    /** What paces are, for HORSE 1 of 5 HINGES with WIND 6 in CELL 0 and 2 in CELL 11. */
    private void paces(String sum, int want) {
        ClothesHorses x = ruled("paces " + sum + ";", 1, 5);
        x.wind(0, 6);
        x.wind(11, 2);
        due("paces " + sum, x.of(1, 5), want);
    }

    private void either(String asked, boolean so) {
        paces("if " + asked + " then 1 else 2 end", so ? 1 : 2);
    }

    @Sentence(promise = 17, says = "From the left; / cuts towards 0, by 0 it is 0; what is above 1000000 (below the same less) is that, at each step.")
    void fromTheLeft() {
        paces("9-3-4", 2);
        paces("9-3+4-8", 2);
        paces("8/2/2", 2);
        paces("8/2*2-6", 2);
        paces("7*2/7", 2);
        paces("1+2*3-5", 2);
        paces("2*-3+8", 2);
    }

    @Sentence(promise = 17, says = "From the left; / cuts towards 0, by 0 it is 0; what is above 1000000 (below the same less) is that, at each step.")
    void divisionCutsTowardsNothing() {
        paces("5/2", 2);
        paces("-5/2+4", 2);
        paces("5/-2+4", 2);
        paces("-5/-2", 2);
        paces("-1/2+2", 2);
        paces("1/2+2", 2);
        paces("-4/2+4", 2);
    }

    @Sentence(promise = 17, says = "From the left; / cuts towards 0, by 0 it is 0; what is above 1000000 (below the same less) is that, at each step.")
    void divisionByNothing() {
        paces("9999/0+2", 2);
        paces("-9999/0+2", 2);
        paces("0/0+2", 2);
        paces("7/(3-3)*5+2", 2);
        paces("7/(hour*sun)+2", 2);
        paces("9/0/0+1/(0/5)+2", 2);
    }

    @Sentence(promise = 17, says = "From the left; / cuts towards 0, by 0 it is 0; what is above 1000000 (below the same less) is that, at each step.")
    void aMillionAndOneMore() {
        // 9999 * 100 and 100 is a million just so; 101 is one too many; both ways leave 100.
        paces("9999*100+99-9999*100-97", 2);
        paces("9999*100+100-9999*100-98", 2);
        paces("9999*100+101-9999*100-98", 2);
        paces("9999*100+9999-9999*100-98", 2);
        paces("1000*1000/1000-998", 2);
        paces("1001*1000/1000-998", 2);
        paces("(9999*100+101)/5000-198", 2);
    }

    @Sentence(promise = 17, says = "From the left; / cuts towards 0, by 0 it is 0; what is above 1000000 (below the same less) is that, at each step.")
    void aMillionAndOneLess() {
        paces("-9999*100-99+9999*100+101", 2);
        paces("-9999*100-100+9999*100+102", 2);
        paces("-9999*100-101+9999*100+102", 2);
        paces("-9999*100-9999+9999*100+102", 2);
        paces("-1000*1000/1000+1002", 2);
        paces("-1001*1000/1000+1002", 2);
        paces("1001*-1000/1000+1002", 2);
    }

    @Sentence(promise = 17, says = "From the left; / cuts towards 0, by 0 it is 0; what is above 1000000 (below the same less) is that, at each step.")
    void nothingWrapsAround() {
        paces("9999*9999*9999/9999-98", 2);
        paces("(1000*1000)*(1000*1000)/1000-998", 2);
        paces("(-1000*1000)*(1000*1000)/1000+1002", 2);
        paces("(-1000*1000)*(-1000*1000)/1000-998", 2);
        paces("9999*9999+9999*9999-9999*9999+2", 2);
        paces("-(9999*9999)-9999*9999+9999*9999+2", 2);
        paces("9999*9999*9999*9999*9999*9999*0+2", 2);
        paces("9999*9999", 3);
        paces("-9999*9999", 0);
    }

    @Sentence(promise = 17, says = "tenth ONE (a tenth, cut downwards)")
    void tenthsAreCutDownwards() {
        paces("tenth 9+2", 2);
        paces("tenth 10+1", 2);
        paces("tenth 19+1", 2);
        paces("tenth 20", 2);
        paces("tenth 0+2", 2);
        paces("tenth -1+3", 2);
        paces("tenth -9+3", 2);
        paces("tenth -10+3", 2);
        paces("tenth -11+4", 2);
        paces("tenth(-19)+4", 2);
        paces("tenth(-20)+4", 2);
        paces("tenth tenth 299", 2);
        paces("tenth(1000*1000)/5000-18", 2);
        paces("tenth(-1000*1000)/5000+22", 2);
        // Of one ONE alone.
        paces("tenth 10*2", 2);
        paces("tenth 20+5-5", 2);
    }

    @Sentence(promise = 17, says = "winds ONE (WIND of the CELL of that number; 0 for others)")
    void windsOfOtherCells() {
        paces("winds 0-4", 2);
        paces("winds 11", 2);
        paces("winds 10-2", 2);
        paces("winds 12+2", 2);
        paces("winds -1+2", 2);
        paces("winds 9999+2", 2);
        paces("winds(1000*1000)+2", 2);
        paces("winds(-1000*1000)+2", 2);
        paces("winds winds winds 0-2", 2);
    }

    @Sentence(promise = 17, says = "or and and look at both sides always, of if just the SUM that is chosen is asked.")
    void orAndAndIf() {
        either("1<2 or 1<2", true);
        either("1<2 or 2<1", true);
        either("2<1 or 1<2", true);
        either("2<1 or 2<1", false);
        either("1<2 and 1<2", true);
        either("1<2 and 2<1", false);
        either("2<1 and 1<2", false);
        either("2<1 and 2<1", false);
        either("1<2 or 1/0=1 and 2<1", true);
        either("2<1 and 1<2 or 1<2", true);
        either("1<2 or 1<2 and 2<1", true);
        either("not 1<2 or 1<2", true);
        either("not 1<2 and 2<1", false);
        String[] asked = {"1<2", "2<1", "2<=2", "3<=2", "2>1", "1>2", "2>=2", "1>=2", "2=2", "1=2", "1#2", "2#2", "not 2<1", "not 1<2"};
        for (int left = 0; left < asked.length; left++) {
            for (int right = 0; right < asked.length; right++) {
                either(asked[left] + " and " + asked[right], left % 2 == 0 && right % 2 == 0);
                either(asked[left] + " or " + asked[right], left % 2 == 0 || right % 2 == 0);
            }
        }
        paces("if 1<2 then 2 else 1/0 end", 2);
        paces("if 1>2 then 9999*9999 else 2 end", 2);
        paces("1+if 1<2 then 0 else 5 end*9+1", 2);
    }

    @Sentence(promise = 17, says = "ASK: not ASK, or SUM one of < <= > >= = # (unlike) SUM.")
    void likeOnesAndNeighbours() {
        String[] signs = {"<", "<=", ">", ">=", "=", "#"};
        boolean[][] so = {{true, false, false}, {true, true, false}, {false, false, true}, {false, true, true},
            {false, true, false}, {true, false, true}};
        for (int sign = 0; sign < 6; sign++) {
            for (int left = -1; left <= 1; left++) {
                either(left + signs[sign] + "0", so[sign][left + 1]);
                either("not " + left + signs[sign] + "0", !so[sign][left + 1]);
                either("not not " + left + signs[sign] + "0", so[sign][left + 1]);
                either((left + 7) + signs[sign] + "7", so[sign][left + 1]);
                either("1000*1000-1+" + left + signs[sign] + "1000*1000-1", so[sign][left + 1]);
            }
        }
    }

    @Sentence(promise = 17, says = "NAMES: hour, sun, wind (of its CELL), hinges, load (weight of the HORSE), cell, who (the HORSE) in all;")
    void namesOfAHorse() {
        paces("hour+2", 2);
        paces("sun+2", 2);
        paces("wind-4", 2);
        paces("hinges-3", 2);
        paces("load+2", 2);
        paces("cell+2", 2);
        paces("who+1", 2);
        ClothesHorses x = ruled("paces 3;sheds 0;dries 0;", 1, 1);
        x.piece(3, 9, 20);
        x.peg(0, 1);
        x.wind(11, 9);
        due("hour(4)", x.hour(4), 1);
        // Behind four HOURS HORSE 1 is in CELL 11, with 29 on it: the suns' draws are every second one.
        int sun = drawn(277, 6) % 10;
        due("is(2)", x.is(2), sun);
        String[] sums = {"hour-2", "sun-" + (sun - 2), "wind-7", "load-27", "cell-9", "who+1"};
        for (String sum : sums) {
            x.image();
            rule(x, "paces " + sum.replace("--", "+") + ";sheds 1+" + sum.replace("--", "+") + ";");
            due("paces " + sum, x.of(1, 5), 2);
            due("sheds 1+" + sum, x.of(1, 6), 3);
            x.back();
        }
    }

    @Sentence(promise = 17, says = "paces: 0 at least, 3 at most; without: 1, and 1 more, if HINGES are above 5, and 1 more, if weight is below 20.")
    void pacesAreLimited() {
        paces("-1", 0);
        paces("0", 0);
        paces("1", 1);
        paces("3", 3);
        paces("4", 3);
        paces("9999", 3);
        paces("-9999*9999", 0);
        paces("9999*9999", 3);
    }

    @Sentence(promise = 17, says = "paces: 0 at least, 3 at most; without: 1, and 1 more, if HINGES are above 5, and 1 more, if weight is below 20.")
    void pacesWithoutALaw() {
        for (int ruled = 0; ruled <= 1; ruled++) {
            ClothesHorses x = with(5, 6, 1, 9);
            if (ruled == 1) {
                rule(x, "sheds 3;dries 2;");
            }
            x.piece(0, 9, 10);
            x.piece(0, 9, 10);
            due("HINGES 5, nothing on it", x.of(0, 5), 2);
            due("HINGES 6, nothing on it", x.of(1, 5), 3);
            due("HINGES 1", x.of(2, 5), 2);
            due("HINGES 9", x.of(3, 5), 3);
            x.peg(0, 0);
            x.peg(1, 1);
            due("HINGES 5, weight 19", x.of(0, 5), 2);
            due("HINGES 6, weight 19", x.of(1, 5), 3);
            x.sock(0, 1);
            x.sock(1, 1);
            due("HINGES 5, weight 20", x.of(0, 5), 1);
            due("HINGES 6, weight 20", x.of(1, 5), 2);
            x.sock(0, 1);
            due("HINGES 5, weight 21", x.of(0, 5), 1);
        }
    }

    @Sentence(promise = 17, says = "sheds (the odds of 10): 0 at least, 10 at most; without: 1.")
    void shedsAreLimited() {
        int[][] laws = {{0, 0}, {1, 1}, {9, 9}, {10, 10}, {11, 10}, {9999, 10}};
        for (int[] law : laws) {
            due("sheds " + law[0], ruled("sheds " + law[0] + ";", 1).of(0, 6), law[1]);
        }
        due("sheds -1", ruled("sheds -1;", 1).of(0, 6), 0);
        due("sheds -9999*9999", ruled("sheds -9999*9999;", 1).of(0, 6), 0);
        ClothesHorses x = ruled("sheds who+hinges;", 1, 2, 3, 4, 5);
        for (int horse = 4; horse >= 0; horse--) {
            due("sheds who+hinges of " + horse, x.of(horse, 6), 2 * horse + 1);
        }
        due("without a text", with(1).of(0, 6), 1);
        due("without the law", ruled("paces 0;dries 5;", 1).of(0, 6), 1);
    }

    @Sentence(promise = 18, says = "dries: 0 at least, 20 at most; without: 1 and a fifth of SUN and WIND together, cut.")
    void driesAreLimited() {
        int[][] laws = {{0, 0}, {1, 1}, {19, 19}, {20, 20}, {21, 20}, {9999, 20}};
        for (int[] law : laws) {
            ClothesHorses x = ruled("dries " + law[0] + ";", 1);
            x.piece(0, 1, 20);
            x.peg(0, 0);
            due("dries " + law[0], x.ofPiece(0, 4), law[1]);
        }
        ClothesHorses x = ruled("dries -1;sheds 0;", 1);
        x.piece(0, 1, 5);
        x.peg(0, 0);
        due("dries -1", x.ofPiece(0, 4), 0);
        x.hour(3);
        due("it gets no wetter", x.ofPiece(0, 2), 5);
        rule(x, "dries -9999*9999;");
        due("dries -9999*9999", x.ofPiece(0, 4), 0);
    }

    @Sentence(promise = 18, says = "dries: 0 at least, 20 at most; without: 1 and a fifth of SUN and WIND together, cut.")
    void driesWithoutALaw() {
        for (int ruled = 0; ruled <= 1; ruled++) {
            ClothesHorses x = with(1);
            if (ruled == 1) {
                rule(x, "sheds 1;paces 0;");
            }
            x.piece(0, 1, 20);
            x.peg(0, 0);
            int[][] fifths = {{0, 1}, {4, 1}, {5, 2}, {9, 2}};
            for (int[] fifth : fifths) {
                x.wind(0, fifth[0]);
                due("SUN 0 and WIND " + fifth[0], x.ofPiece(0, 4), fifth[1]);
            }
        }
        // SUN 7 by the first draw.
        ClothesHorses x = ruled("paces 0;", 1);
        x.piece(0, 1, 20);
        x.peg(0, 0);
        x.hour(1);
        due("is(2)", x.is(2), 7);
        int[][] fifths = {{0, 2}, {2, 2}, {3, 3}, {7, 3}, {8, 4}, {9, 4}};
        for (int[] fifth : fifths) {
            x.wind(0, fifth[0]);
            due("SUN 7 and WIND " + fifth[0], x.ofPiece(0, 4), fifth[1]);
        }
    }

    @Sentence(promise = 18, says = "stuff, weight (WEIGHT of the PIECE), wet in dries.")
    void namesOfAPiece() {
        ClothesHorses x = with(2, 7);
        x.piece(3, 9, 20);
        x.piece(0, 1, 0);
        x.piece(2, 5, 7);
        x.peg(2, 1);
        x.peg(0, 1);
        String[] names = {"stuff", "weight", "wet", "load", "hinges", "who", "wind", "hour", "sun", "cell"};
        int[] want = {2, 5, 7, 20, 7, 1, 4, 0, 0, 0};
        int[] other = {3, 9, 20, 20, 7, 1, 4, 0, 0, 0};
        for (int i = 0; i < names.length; i++) {
            x.image();
            rule(x, "dries " + names[i] + (names[i].equals("load") ? "-21;" : ";"));
            due("dries " + names[i], x.ofPiece(2, 4), names[i].equals("load") ? 20 : want[i]);
            due("dries " + names[i], x.ofPiece(0, 4), names[i].equals("load") ? 20 : other[i]);
            x.back();
        }
    }
}
