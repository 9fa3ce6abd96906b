/** Promises 5 to 8: the tape, and what can be read from it. */
final class TapeEdges extends Edges {
    /** A new object reads it: its FAULT (0 without) and its place. */
    private void fault(String text, int fault, int place) {
        ClothesHorses x = new ClothesHorses();
        due("text() of '" + text + "'", Checks.text(x, text), fault == 0 ? 0 : NONE);
        due("fault(0) of '" + text + "'", x.fault(0), fault);
        due("fault(1) of '" + text + "'", x.fault(1), place);
    }

    private void sound(String text) {
        fault(text, 0, NONE);
    }

    /** A NUMBER of least .. most may stand there, and no other one. */
    private void number(String ahead, int least, int most, String behind) {
        sound(ahead + least + behind);
        sound(ahead + most + behind);
        sound(ahead + "000" + most + behind);
        int place = ahead.length();
        fault(ahead + (most + 1) + behind, 2, place);
        fault(ahead + "9999" + behind, most == 9999 ? 0 : 2, most == 9999 ? NONE : place);
        fault(ahead + "10000" + behind, 2, place);
        if (least > 0) {
            fault(ahead + (least - 1) + behind, 2, place);
        }
        /* 2 to the 32nd and to the 64th, and what may stand there: they don't wrap around. */
        fault(ahead + (4294967296L + least) + behind, 2, place);
        fault(ahead + (most < 10 ? "1844674407370955161" + (6 + Math.min(3, most)) : "18446744073709551626") + behind, 2, place);
        fault(ahead + "-" + least + behind, ahead.equals("paces ") ? 0 : 1, ahead.equals("paces ") ? NONE : place);
    }

    /** As many of them around one another as asked for, with blanks, and where the last one begins. */
    private static String nested(String opening, int times, String inner, String closing) {
        return (opening + " ").repeat(times) + inner + (" " + closing).repeat(times);
    }

    @Sentence(promise = 5, says = "Twenty bytes come behind the tape, the highest of a first: how many it has.")
    void bytesComeInTheirOrder() {
        ClothesHorses x = new ClothesHorses();
        // "horse 5;horse 7;hour" and " 60;start;          "
        due("feed", x.feed(0x686f7273, 0x6520353b, 0x686f7273, 0x6520373b, 0x686f7572), 20);
        due("feed", x.feed(0x2036303b, 0x73746172, 0x743b2020, 0x20202020, 0x20202020), 40);
        due("about(7)", x.about(7), 40);
        due("text()", x.text(), 0);
        due("played(0)", x.played(0), NONE);
        due("of(0, 0)", x.of(0, 0), 5);
        due("of(1, 0)", x.of(1, 0), 7);
        due("is(0)", x.is(0), 60);
    }

    @Sentence(promise = 5, says = "Twenty bytes come behind the tape, the highest of a first: how many it has.")
    void bytesAbove127AreBytes() {
        ClothesHorses x = new ClothesHorses();
        // A byte of 160 (32 and 128) is no blank, and one of 240 (112 and 128) is no p.
        x.feed(0x73746172, 0x743ba020, 0x20202020, 0x20202020, 0x20202020);
        due("text()", x.text(), NONE);
        due("fault(0)", x.fault(0), 1);
        due("fault(1)", x.fault(1), 6);
        x.feed(0xf0616365, 0x7320313b, MIN, MAX, NONE);
        due("text()", x.text(), NONE);
        due("fault(0)", x.fault(0), 1);
        due("fault(1)", x.fault(1), 0);
    }

    @Sentence(promise = 5, says = "NONE, and none come, if there would be more than 300.")
    void theTapeIsFull() {
        ClothesHorses x = new ClothesHorses();
        for (int i = 1; i <= 15; i++) {
            due("feed " + i, x.feed(i, i, i, i, i), 20 * i);
        }
        refused(x, "feed", NONE, a -> x.feed(a[0], a[0], a[0], a[0], a[0]), ones(0, 1, MIN, MAX));
        due("about(7)", x.about(7), 300);
    }

    @Sentence(promise = 5, says = "NONE, and none come, if there would be more than 300.")
    void oneByteTooMany() {
        ClothesHorses x = new ClothesHorses();
        Checks.tape(x, " ".repeat(300));
        for (int has : of(299, 290, 281)) {
            due("end(" + has + ")", x.end(has), has);
            due("feed", x.feed(1, 1, 1, 1, 1), NONE);
            due("about(7)", x.about(7), has);
        }
        due("end(280)", x.end(280), 280);
        due("feed", x.feed(0x20202020, 0x20202020, 0x20202020, 0x20202020, 0x20202020), 300);
        due("nothing that was refused is in it", x.text(), 0);
    }

    @Sentence(promise = 6, says = "The tape has its first n bytes alone: n.")
    void theTapeIsCut() {
        ClothesHorses x = new ClothesHorses();
        due("of an empty tape end(0)", x.end(0), 0);
        x.feed(0x73746172, 0x743b7374, 0x6172743b, 0x21212121, 0x21212121);
        due("all of it: end(20)", x.end(20), 20);
        due("about(7)", x.about(7), 20);
        due("end(12)", x.end(12), 12);
        due("about(7)", x.about(7), 12);
        due("what is behind is there no more", x.end(13), NONE);
        due("feed", x.feed(0x20202020, 0x20202020, 0x20202020, 0x20202020, 0x20202020), 32);
        due("text()", x.text(), 0);
        x.feed(1, 1, 1, 1, 1);
        due("end(0)", x.end(0), 0);
        due("about(7)", x.about(7), 0);
    }

    @Sentence(promise = 6, says = "NONE, and nothing is done, if it has not so many, or n is below 0.")
    void theTapeHasNotSoMany() {
        ClothesHorses x = new ClothesHorses();
        refused(x, "end", NONE, a -> x.end(a[0]), ones(1, 20, 300, MAX));
        x.feed(0x73746172, 0x743b2020, 0x20202020, 0x20202020, 0x20202020);
        refused(x, "end", NONE, a -> x.end(a[0]), ones(21, 22, 300, 301, MAX));
        due("the tape is as it was", x.text(), 0);
    }

    @Sentence(promise = 6, says = "NONE, and nothing is done, if it has not so many, or n is below 0.")
    void belowNothing() {
        ClothesHorses x = new ClothesHorses();
        x.feed(0x73746172, 0x743b2020, 0x20202020, 0x20202020, 0x20202020);
        refused(x, "end", NONE, a -> x.end(a[0]), ones(-1, -2, -20, MIN));
        due("the tape is as it was", x.text(), 0);
    }

    @Sentence(promise = 7, says = "The tape (empty then) is a TEXT: its number.")
    void theTapeIsEmptyThen() {
        ClothesHorses x = new ClothesHorses();
        for (int i = 0; i < 4; i++) {
            due("text()", Checks.text(x, "start;"), i);
            due("about(7)", x.about(7), 0);
            due("about(2)", x.about(2), i + 1);
        }
    }

    @Sentence(promise = 7, says = "The tape (empty then) is a TEXT: its number.")
    void anEmptyTapeIsAnEmptyText() {
        ClothesHorses x = with(9);
        due("text()", x.text(), 0);
        due("fault(0)", x.fault(0), 0);
        due("fault(1)", x.fault(1), NONE);
        due("nothing but blanks", Checks.text(x, " \n \n"), 1);
        due("by(0)", x.by(0), true);
        due("of(0, 5)", x.of(0, 5), 3);
        due("played(0)", x.played(0), NONE);
        due("about(4)", x.about(4), 0);
    }

    @Sentence(promise = 7, says = "NONE: it has a FAULT; or (the tape stays) there are 4.")
    void aFaultMakesNoText() {
        ClothesHorses x = new ClothesHorses();
        due("text()", Checks.text(x, "horse 1;start"), NONE);
        due("about(2)", x.about(2), 0);
        due("nothing of it is done", x.about(0), 0);
        due("the tape doesn't stay", x.about(7), 0);
        due("the next one", Checks.text(x, "start;"), 0);
    }

    @Sentence(promise = 7, says = "NONE: it has a FAULT; or (the tape stays) there are 4.")
    void aFifthText() {
        ClothesHorses x = new ClothesHorses();
        for (int i = 0; i < 3; i++) {
            Checks.text(x, "start;");
        }
        x.image();
        due("the fourth", Checks.text(x, "start;"), 3);
        Checks.tape(x, "horse 7;");
        refused(x, "text", NONE, a -> x.text(), of(), of());
        due("about(7)", x.about(7), 8);
        Checks.tape(x, "horse 0;");
        refused(x, "text", NONE, a -> x.text(), of());
        due("it wasn't read: fault(0)", x.fault(0), 0);
        Checks.tape(x, "horse 7;");
        x.back();
        due("with room the tape is read", x.text(), 3);
        due("played(3)", x.played(3), NONE);
        due("of(0, 0)", x.of(0, 0), 7);
    }

    @Sentence(promise = 7, says = "TEXTS 0 .. 3: of up to 300 bytes.")
    void aTextOf300Bytes() {
        ClothesHorses x = with(1);
        String text = "paces 1" + "+1-1".repeat(72) + "+01;";
        due("its length", text.length(), 299);
        due("text() of 299", Checks.text(x, text), 0);
        due("text() of 300", Checks.text(x, text + "\n"), 1);
        due("text() of 300", Checks.text(x, "\n" + text), 2);
        for (int i = 0; i < 3; i++) {
            due("by(" + i + ")", x.by(i), true);
            due("of(0, 5)", x.of(0, 5), 2);
        }
        String most = "start;".repeat(23) + "paces " + "(1)+".repeat(38) + "0";
        due("its length", most.length(), 297);
        due("a FAULT at the very end", Checks.text(x, most + "   "), NONE);
        due("fault(1)", x.fault(1), 300);
        due("text()", Checks.text(x, most + "  ;"), 3);
        fault(";".repeat(300), 1, 0);
        fault("(".repeat(300), 1, 0);
        fault("1 ".repeat(150), 1, 0);
        fault("start;".repeat(24) + "+".repeat(156), 1, 144);
        fault("a".repeat(300), 1, 0);
        fault("9".repeat(300), 1, 0);
        fault(" ".repeat(299) + "<", 1, 299);
        sound(" ".repeat(300));
    }

    @Sentence(promise = 7, says = "TOKENS, blanks (32, 10) aside: letters a .. z, A .. Z one behind the other (one TOKEN), digits likewise (NUMBERS, 0 .. 9999), <= >= < > = # + - * / ( ) ; (the longest).")
    void blanksAre32And10() {
        sound(" \n start\n;\n \n");
        sound("\n\n\n");
        sound("paces\n1\n;");
        sound("paces 1 + - ( 2 ) ;start;");
        for (int other : of(0, 1, 9, 11, 12, 13, 31, 33, 127, 128, 138, 160, 255)) {
            fault("start" + (char) other + ";", 1, 5);
        }
        fault("st art;", 1, 0);
        fault("paces 1 1;", 1, 8);
    }

    @Sentence(promise = 7, says = "TOKENS, blanks (32, 10) aside: letters a .. z, A .. Z one behind the other (one TOKEN), digits likewise (NUMBERS, 0 .. 9999), <= >= < > = # + - * / ( ) ; (the longest).")
    void lettersAreOneToken() {
        fault("Start;", 1, 0);
        fault("START;", 1, 0);
        fault("starts;", 1, 0);
        fault("star;", 1, 0);
        fault("startstart;", 1, 0);
        fault("startZ;", 1, 0);
        fault("start_;", 1, 5);
        fault("start@;", 1, 5);
        fault("start[;", 1, 5);
        fault("start`;", 1, 5);
        fault("start{;", 1, 5);
        fault("pacessun;", 1, 0);
        fault("paces sunA;", 1, 6);
        fault("paces a;", 1, 6);
        fault("paces z;", 1, 6);
        fault("paces w;", 1, 6);
        fault("paces paces;", 1, 6);
    }

    @Sentence(promise = 7, says = "TOKENS, blanks (32, 10) aside: letters a .. z, A .. Z one behind the other (one TOKEN), digits likewise (NUMBERS, 0 .. 9999), <= >= < > = # + - * / ( ) ; (the longest).")
    void digitsAreOneToken() {
        sound("horse5;hour60;");
        sound("paces1;sheds2;dries3;");
        sound("piece0weight1wet0;peg0to0;sock1on0;wind0at0;");
        sound("paces 0;dries 9999;sheds 0000000000000000000000000009999;");
        fault("horse /;", 1, 6);
        fault("horse :;", 1, 6);
        fault("horse 1 0;", 1, 8);
        fault("horse 10;", 2, 6);
        fault("paces 1 2;", 1, 8);
    }

    @Sentence(promise = 7, says = "TOKENS, blanks (32, 10) aside: letters a .. z, A .. Z one behind the other (one TOKEN), digits likewise (NUMBERS, 0 .. 9999), <= >= < > = # + - * / ( ) ; (the longest).")
    void theLongestIsTaken() {
        sound("paces if 1<=2 then 1 else 2 end;");
        sound("paces if 1>=2 then 1 else 2 end;");
        sound("paces if 1<-2 then 1 else 2 end;");
        sound("paces if 1#-2 then 1 else 2 end;");
        sound("paces if 1=-2 then 1 else 2 end;");
        sound("paces 1--2*-(3)/-4;");
        fault("paces if 1< =2 then 1 else 2 end;", 1, 12);
        fault("paces if 1> =2 then 1 else 2 end;", 1, 12);
        fault("paces if 1<\n=2 then 1 else 2 end;", 1, 12);
        fault("paces if 1=<2 then 1 else 2 end;", 1, 11);
        fault("paces if 1=>2 then 1 else 2 end;", 1, 11);
        fault("paces if 1==2 then 1 else 2 end;", 1, 11);
        fault("paces if 1<>2 then 1 else 2 end;", 1, 11);
        fault("paces if 1<==2 then 1 else 2 end;", 1, 12);
        fault("paces if 1#=2 then 1 else 2 end;", 1, 11);
        fault("paces if 1<", 1, 11);
        fault("paces if 1<=", 1, 12);
        for (char none : "!\"$%&',.:?[\\]^_`{|}~".toCharArray()) {
            fault("start;" + none, 1, 6);
        }
    }

    @Sentence(promise = 7, says = "{CLAUSE}, 24 at most: paces SUM ; or dries SUM ; or sheds SUM ; (each once) or horse NUMBER ; (HINGES) or piece NUMBER weight NUMBER wet NUMBER ; (STUFF) or wind NUMBER at NUMBER ; (CELL) or peg NUMBER to NUMBER ; (PIECE, HORSE) or sock NUMBER on NUMBER ; (wet, PIECE) or start ; or hour NUMBER ;.")
    void noneOneAndTwentyFourClauses() {
        sound("");
        sound("start;");
        sound("start;".repeat(24));
        fault("start;".repeat(25), 6, 144);
        sound("paces 1;dries 1;sheds 1;" + "hour 60;".repeat(21));
        fault("paces 1;dries 1;sheds 1;" + "hour 60;".repeat(21) + "hour 60;", 6, 192);
        sound("paces 1;dries 2;sheds 3;horse 4;piece 1 weight 2 wet 3;wind 1 at 2;peg 3 to 4;sock 5 on 6;start;hour 7;");
        sound("hour 7;start;sock 5 on 6;peg 3 to 4;wind 1 at 2;piece 1 weight 2 wet 3;horse 4;sheds 3;dries 2;paces 1;");
    }

    @Sentence(promise = 7, says = "{CLAUSE}, 24 at most: paces SUM ; or dries SUM ; or sheds SUM ; (each once) or horse NUMBER ; (HINGES) or piece NUMBER weight NUMBER wet NUMBER ; (STUFF) or wind NUMBER at NUMBER ; (CELL) or peg NUMBER to NUMBER ; (PIECE, HORSE) or sock NUMBER on NUMBER ; (wet, PIECE) or start ; or hour NUMBER ;.")
    void noTokenOfAClauseMayLack() {
        String[] clauses = {"paces 1 ;", "dries 1 ;", "sheds 1 ;", "horse 1 ;", "piece 1 weight 1 wet 1 ;", "wind 1 at 1 ;",
            "peg 1 to 1 ;", "sock 1 on 1 ;", "start ;", "hour 1 ;"};
        for (String clause : clauses) {
            sound(clause);
            for (int i = clause.indexOf(' '); i >= 0; i = clause.indexOf(' ', i + 1)) {
                String cut = clause.substring(0, i);
                fault(cut, 1, i);
                fault(cut + " !", 1, i + 1);
                fault(cut + " start", 1, i + 1);
                boolean sumBehind = i > 5 && clause.matches("(paces|dries|sheds).*");
                fault(cut + (sumBehind ? " (" : " +"), 1, i + 1);
            }
            fault(clause + ";", 1, clause.length());
        }
    }

    @Sentence(promise = 7, says = "SUM: PRODUCT {+ or - PRODUCT}. PRODUCT: ONE {* or / ONE}. ONE: NUMBER, NAME, ( SUM ), - ONE, tenth ONE (a tenth, cut downwards), winds ONE (WIND of the CELL of that number; 0 for others), if EITHER then SUM else SUM end. EITHER: BOTH {or BOTH}. BOTH: ASK {and ASK}. ASK: not ASK, or SUM one of < <= > >= = # (unlike) SUM.")
    void partsOfASum() {
        fault("paces ;", 1, 6);
        fault("paces", 1, 5);
        fault("paces 1+;", 1, 8);
        fault("paces 1*;", 1, 8);
        fault("paces +1;", 1, 6);
        fault("paces *1;", 1, 6);
        fault("paces 1+*1;", 1, 8);
        fault("paces ();", 1, 7);
        fault("paces (1;", 1, 8);
        fault("paces 1);", 1, 7);
        fault("paces -;", 1, 7);
        fault("paces tenth;", 1, 11);
        fault("paces winds;", 1, 11);
        fault("paces tenth+1;", 1, 11);
        fault("paces not 1;", 1, 6);
        fault("paces 1<2;", 1, 7);
        fault("paces 1 or 2;", 1, 8);
        sound("paces tenth-winds tenth(1);");
        sound("paces if 1<2 then 1 else 2 end;");
        fault("paces if then 1 else 2 end;", 1, 9);
        fault("paces if 1 then 1 else 2 end;", 1, 11);
        fault("paces if 1<2<3 then 1 else 2 end;", 1, 12);
        fault("paces if (1<2) then 1 else 2 end;", 1, 11);
        fault("paces if 1<2 or then 1 else 2 end;", 1, 16);
        fault("paces if 1<2 and or 1<2 then 1 else 2 end;", 1, 17);
        fault("paces if 1 not<2 then 1 else 2 end;", 1, 11);
        fault("paces if 1<2 then else 2 end;", 1, 18);
        fault("paces if 1<2 then 1 end;", 1, 20);
        fault("paces if 1<2 then 1 else end;", 1, 25);
        fault("paces if 1<2 then 1 else 2;", 1, 26);
        fault("paces if 1<2 else 1 then 2 end;", 1, 13);
    }

    @Sentence(promise = 7, says = "NAMES: hour, sun, wind (of its CELL), hinges, load (weight of the HORSE), cell, who (the HORSE) in all; stuff, weight (WEIGHT of the PIECE), wet in dries.")
    void namesInAllAndNamesInDries() {
        for (String name : "hour sun wind hinges load cell who".split(" ")) {
            sound("paces " + name + ";dries " + name + ";sheds " + name + ";");
        }
        for (String name : "stuff weight wet".split(" ")) {
            sound("dries " + name + ";");
            fault("paces " + name + ";", 5, 6);
            fault("sheds " + name + ";", 5, 6);
        }
        for (String word : "horse piece peg sock start paces dries sheds at to on then else end or and".split(" ")) {
            fault("dries " + word + ";", 1, 6);
        }
    }

    @Sentence(promise = 8, says = "Of the latest text that was read: 0 its FAULT (0 without), 1 its place (NONE without).")
    void theLatestTextTells() {
        ClothesHorses x = new ClothesHorses();
        Checks.text(x, "start");
        due("fault(0)", x.fault(0), 1);
        due("fault(1)", x.fault(1), 5);
        Checks.text(x, "start;horse 0;");
        due("fault(0)", x.fault(0), 2);
        due("fault(1)", x.fault(1), 12);
        x.feed(1, 1, 1, 1, 1);
        x.end(0);
        due("fault(0) stays", x.fault(0), 2);
        Checks.text(x, "start;");
        due("without one fault(0)", x.fault(0), 0);
        due("without one fault(1)", x.fault(1), NONE);
        Checks.text(x, "!");
        due("fault(0)", x.fault(0), 1);
        due("at the very first byte", x.fault(1), 0);
    }

    @Sentence(promise = 8, says = "NONE for others, and ahead of any.")
    void faultOfNone() {
        ClothesHorses x = new ClothesHorses();
        each("ahead of any: fault", NONE, a -> x.fault(a[0]), ones(0, 1, 2, -1, MIN, MAX));
        Checks.tape(x, "start");
        each("a tape that isn't read yet: fault", NONE, a -> x.fault(a[0]), ones(0, 1));
        x.text();
        each("fault", NONE, a -> x.fault(a[0]), ones(2, 3, -1, -2, MIN, MAX));
    }

    @Sentence(promise = 8, says = "FAULTS, the first as TOKENS are come to, at the TOKEN's first byte (of the end at the length), of one the least: 1 it can't stand there, or is none.")
    void theFirstFaultIsTold() {
        fault("horse 0;horse 10;", 2, 6);
        fault("horse 9;horse 10;!", 2, 14);
        fault("horse 9 horse 0;", 1, 8);
        fault("! horse 0;", 1, 0);
        fault("paces wet;paces 1;", 5, 6);
        fault("paces 1;paces wet;", 4, 8);
        fault("paces 10000 wet", 2, 6);
    }

    @Sentence(promise = 8, says = "FAULTS, the first as TOKENS are come to, at the TOKEN's first byte (of the end at the length), of one the least: 1 it can't stand there, or is none.")
    void theEndIsAtTheLength() {
        fault("start", 1, 5);
        fault("start ", 1, 6);
        fault("start \n  ", 1, 9);
        fault("hour 60", 1, 7);
        fault("paces 12", 1, 8);
        fault("paces (1", 1, 8);
        fault("   start   ", 1, 11);
        fault("   starts  ", 1, 3);
        fault("start" + " ".repeat(295), 1, 300);
    }

    @Sentence(promise = 8, says = "FAULTS, the first as TOKENS are come to, at the TOKEN's first byte (of the end at the length), of one the least: 1 it can't stand there, or is none.")
    void ofOneTheLeast() {
        String open = "paces ((((((((";
        // Where no NUMBER, no NAME and nothing that opens can stand it is 1, however large, wrong or deep it is.
        fault("start 10000;", 1, 6);
        fault("paces 1 10000;", 1, 8);
        fault("paces 1 wet;", 1, 8);
        fault("horse wet;", 1, 6);
        fault(open + "1(", 1, 15);
        fault(open + "1 not", 1, 16);
        fault(open + "not", 1, 14);
        fault(open + "1 if", 1, 16);
        fault("paces 1 paces 1;", 1, 8);
        fault("paces 1;" + "start;".repeat(23) + "paces 1;", 4, 146);
        fault("start;".repeat(24) + "starts;", 1, 144);
        fault("start;".repeat(24) + ";", 1, 144);
        fault("start;".repeat(24) + "horse 0;", 6, 144);
    }

    @Sentence(promise = 8, says = "2 a NUMBER that isn't one of those told (above 9999; HINGES, WEIGHT 1 .. 9, STUFF 0 .. 3, WET of a piece 0 .. 20, of a sock 1 .. 20, WIND 0 .. 9, CELLS 0 .. 11, PIECES 0 .. 9, HORSES 0 .. 4, HOURS 1 .. 60).")
    void numbersOfHingesWeightAndStuff() {
        number("horse ", 1, 9, ";");
        number("piece 0 weight ", 1, 9, " wet 0;");
        number("piece ", 0, 3, " weight 1 wet 0;");
    }

    @Sentence(promise = 8, says = "2 a NUMBER that isn't one of those told (above 9999; HINGES, WEIGHT 1 .. 9, STUFF 0 .. 3, WET of a piece 0 .. 20, of a sock 1 .. 20, WIND 0 .. 9, CELLS 0 .. 11, PIECES 0 .. 9, HORSES 0 .. 4, HOURS 1 .. 60).")
    void numbersOfWet() {
        number("piece 0 weight 1 wet ", 0, 20, ";");
        number("sock ", 1, 20, " on 0;");
    }

    @Sentence(promise = 8, says = "2 a NUMBER that isn't one of those told (above 9999; HINGES, WEIGHT 1 .. 9, STUFF 0 .. 3, WET of a piece 0 .. 20, of a sock 1 .. 20, WIND 0 .. 9, CELLS 0 .. 11, PIECES 0 .. 9, HORSES 0 .. 4, HOURS 1 .. 60).")
    void numbersOfWindCellsPiecesHorsesAndHours() {
        number("wind ", 0, 9, " at 0;");
        number("wind 0 at ", 0, 11, ";");
        number("peg ", 0, 9, " to 0;");
        number("sock 1 on ", 0, 9, ";");
        number("peg 0 to ", 0, 4, ";");
        number("hour ", 1, 60, ";");
    }

    @Sentence(promise = 8, says = "2 a NUMBER that isn't one of those told (above 9999; HINGES, WEIGHT 1 .. 9, STUFF 0 .. 3, WET of a piece 0 .. 20, of a sock 1 .. 20, WIND 0 .. 9, CELLS 0 .. 11, PIECES 0 .. 9, HORSES 0 .. 4, HOURS 1 .. 60).")
    void numbersAbove9999() {
        number("paces ", 0, 9999, ";");
        fault("dries 1+10000;", 2, 8);
        fault("sheds tenth 10000;", 2, 12);
        fault("paces 1" + "0".repeat(250) + ";", 2, 6);
        fault("paces " + "9".repeat(250) + ";", 2, 6);
        sound("paces " + "0".repeat(250) + "9999;");
        // PIECES and HORSES of a text need not be there when it is read.
        sound("peg 9 to 4;sock 20 on 9;");
    }

    @Sentence(promise = 8, says = "3 the 9th of ( not tenth winds if and - (of one ONE) that are open around one another (at it).")
    void theNinthOfOneKind() {
        for (String opening : new String[] {"(", "tenth", "winds", "-"}) {
            String closing = opening.equals("(") ? ")" : "";
            sound("paces " + nested(opening, 8, "1", closing) + ";");
            fault("paces " + nested(opening, 9, "1", closing) + ";", 3, 6 + 8 * (opening.length() + 1));
            fault("paces " + nested(opening, 12, "1", closing) + ";", 3, 6 + 8 * (opening.length() + 1));
        }
        sound("paces if " + "not ".repeat(7) + "1<2 then 1 else 2 end;");
        fault("paces if " + "not ".repeat(8) + "1<2 then 1 else 2 end;", 3, 9 + 28);
        String choice = "if 1<";
        String rest = " then 1 else 2 end";
        sound("paces " + choice.repeat(8) + "2" + rest.repeat(8) + ";");
        fault("paces " + choice.repeat(9) + "2" + rest.repeat(9) + ";", 3, 6 + 8 * 5);
    }

    @Sentence(promise = 8, says = "3 the 9th of ( not tenth winds if and - (of one ONE) that are open around one another (at it).")
    void theNinthOfAllKinds() {
        String seven = "paces (-tenth winds if not (";
        sound(seven + "-1)<2 then 1 else 2 end);");
        fault(seven + "-(1))<2 then 1 else 2 end);", 3, seven.length() + 1);
        fault(seven + "-tenth 1)<2 then 1 else 2 end);", 3, seven.length() + 1);
        fault(seven + "-winds 1)<2 then 1 else 2 end);", 3, seven.length() + 1);
        fault(seven + "--1)<2 then 1 else 2 end);", 3, seven.length() + 1);
        fault(seven + "-if 1<2 then 1 else 2 end)<2 then 1 else 2 end);", 3, seven.length() + 1);
        fault("paces ((((((((if not 1<2 then 1 else 2 end))))))));", 3, 14);
        fault("paces (((((((if not 1<2 then 1 else 2 end)))))));", 3, 16);
        // if is open in what it asks and in both of its SUMS.
        fault("paces (((((((if (1)<2 then 1 else 2 end)))))));", 3, 16);
        fault("paces (((((((if 1<2 then (1) else 2 end)))))));", 3, 25);
        fault("paces (((((((if 1<2 then 1 else (2) end)))))));", 3, 32);
    }

    @Sentence(promise = 8, says = "3 the 9th of ( not tenth winds if and - (of one ONE) that are open around one another (at it).")
    void whatIsShutIsOpenNoMore() {
        String eight = "((((((((1))))))))";
        sound("paces " + eight + "+" + eight + "*" + eight + ";dries " + eight + ";sheds " + eight + ";");
        sound("paces --------1+--------1;");
        sound("paces ((((((((1)))))))+(2));");
        sound("paces (-1)+(-(-(-(-1))))+tenth 1+winds 1+tenth winds tenth winds tenth winds tenth winds 1;");
        sound("paces if not not not not not not not 1<2 and not not not not not not not 1<2 or not 1<2 then 1 else 2 end;");
        // The - of two is open around nothing.
        sound("paces 1-1-1-1-1-1-1-1-1-1-1-(1-(1-(1-(1-(1-(1-(1-(1-1))))))));");
    }

    @Sentence(promise = 8, says = "4 paces, dries, sheds for the second time (at it).")
    void aLawForTheSecondTime() {
        for (String law : "paces dries sheds".split(" ")) {
            fault(law + " 1;" + law + " 1;", 4, 8);
            fault(law + " 1;start; " + law, 4, 15);
            fault(law + " 1;" + law + " wet 10000 !", 4, 8);
            fault("paces 1;dries 1;sheds 1;" + law + " 1;", 4, 24);
        }
        sound("horse 1;horse 1;piece 0 weight 1 wet 1;piece 0 weight 1 wet 1;wind 1 at 1;wind 1 at 1;peg 0 to 0;peg 0 to 0;"
            + "sock 1 on 0;sock 1 on 0;start;start;hour 1;hour 1;");
    }

    @Sentence(promise = 8, says = "5 a NAME that isn't of that CLAUSE (at it).")
    void aNameOfAnotherClause() {
        fault("dries wet;paces wet;", 5, 16);
        fault("paces 1+2*(weight);", 5, 11);
        fault("sheds if stuff=1 then 1 else 2 end;", 5, 9);
        fault("sheds if 1=1 then 1 else tenth wet end;", 5, 31);
        fault("paces ((((((((wet))))))));", 5, 14);
        sound("paces 1;dries wet+weight+stuff;sheds 1;");
    }

    @Sentence(promise = 8, says = "6 the 25th CLAUSE (at its first TOKEN).")
    void theTwentyFifthClause() {
        String most = "start;".repeat(24);
        sound(most + " \n");
        for (String kind : "paces dries sheds horse piece wind peg sock start hour".split(" ")) {
            fault(most + "  " + kind, 6, 146);
        }
        fault("start;".repeat(23) + "start start;", 1, 144);
    }
}
