/** The edges of part 1 of the terms, and of promises 1 to 3: one method for each sentence that names one. */
public final class TextEdgesTest {
    private static final Check CHECK = new Check("TextEdgesTest");
    private static final Refusals REFUSALS = new Refusals(CHECK);
    private static final int NONE = SquareCuts.NONE;

    public static void main(String[] args) {
        newObjectHasNothing();
        tapeHas600Bytes();
        feedGoesBehindTheTape();
        textTakesTheFirstBytes();
        textOfTooManyOrBelowZero();
        textMakesTheTapeEmpty();
        textOfNoBytes();
        faultLeavesAllElse();
        newTextForgetsActsAndKeeps();
        blanksAre32And10();
        everyByteWhereANameStands();
        everyByteWhereANumberStands();
        everyByteWhereALineEnds();
        wordsHaveOneToSixLetters();
        numbersHaveOneToFourDigits();
        signsStandAlone();
        textMayHaveNoLines();
        sixRectanglesAtMost();
        drawnHasAGroupAtLeast();
        groupHasANumberAtLeast();
        sizesFrom1To9999();
        twentyFourNumbersAtMost();
        pointsFrom2To9();
        fourteenWiresAtMost();
        pointsOfWiresFromZeroOn();
        wiresHaveTwoUnlikePoints();
        namesAreNotDrawnOrNet();
        noTwoNamesAreAlike();
        theLeastPlaceWins();
        firstOfTheListAtOnePlace();
        placeOfTheEnd();
        placeOfATokenIsItsFirstByte();
        CHECK.end();
    }

    private static int answer(String text) {
        return Check.tell(new SquareCuts(), text);
    }

    private static void good(String text, int rectangles) {
        CHECK.due("text " + text, answer(text), rectangles);
    }

    private static void fault(String text, int place, int kind) {
        CHECK.due("text " + text, answer(text), Check.fault(place, kind));
    }

    private static String nets(int number) {
        StringBuilder text = new StringBuilder();
        for (int i = 0; i < number; i++) {
            text.append("net ").append((char) ('a' + i)).append(" 2;");
        }
        return text.toString();
    }

    // ---- promises 1 to 3

    private static void newObjectHasNothing() {
        SquareCuts cuts = new SquareCuts();
        for (int what = 0; what <= 5; what++) {
            CHECK.due("new: count(" + what + ")", cuts.count(what), 0);
        }
        CHECK.due("new: rect 0", cuts.rect(0, 7), NONE);
        CHECK.due("new: at 0", cuts.at(0), NONE);
        CHECK.due("new: undo", cuts.undo(), NONE);
        CHECK.due("new: back to 0", cuts.keep(0, true), false);
        CHECK.due("new: back to 1", cuts.keep(1, true), false);
        CHECK.due("new: grow", cuts.grow(0, true), NONE);
    }

    private static SquareCuts withFullTape() {
        SquareCuts cuts = Refusals.inUseWithoutTape();
        Check.put(cuts, " ".repeat(588) + "drawn z (6);");
        return cuts;
    }

    private static void tapeHas600Bytes() {
        SquareCuts cuts = new SquareCuts();
        for (int i = 1; i <= 29; i++) {
            cuts.feed(0, 0, 0, 0, 0);
        }
        CHECK.due("580 bytes", cuts.count(4), 580);
        CHECK.due("the last feed with room", cuts.feed(0, 0, 0, 0, 0), 600);
        CHECK.due("the first without", cuts.feed(0, 0, 0, 0, 0), NONE);
        CHECK.due("none come", cuts.count(4), 600);
        REFUSALS.leaves("feed to a full tape", TextEdgesTest::withFullTape,
            c -> c.feed(0x20202020, 0x20202020, 0x20202020, 0x20202020, 0x20202020), NONE);
        SquareCuts full = withFullTape();
        full.feed(0, 0, 0, 0, 0);
        CHECK.due("a full tape is read to its last byte", full.text(600), 1);
        CHECK.due("the size that stood at its end", full.rect(0, 1), 6);
        CHECK.due("room again behind the text", full.feed(0, 0, 0, 0, 0), 20);
    }

    private static void feedGoesBehindTheTape() {
        String[] feeds = {"drawn a ", "(1)(1)(1)(1)(1)(1)(1", ")(1);"};
        SquareCuts cuts = new SquareCuts();
        int[] fed = {20, 40, 60};
        for (int i = 0; i < 3; i++) {
            String twenty = (feeds[i] + " ".repeat(20)).substring(0, 20);
            CHECK.due("feed " + i, cuts.feed(Check.four(twenty, 0), Check.four(twenty, 4), Check.four(twenty, 8),
                Check.four(twenty, 12), Check.four(twenty, 16)), fed[i]);
        }
        CHECK.due("all three, one behind the other", cuts.text(60), 1);
        CHECK.due("its squares", cuts.rect(0, 0), 8);
        // A number below 0 and one above it differ in the highest bit of the first of their bytes alone.
        cuts.feed(0xA06E6574, 0x20612032, 0x3B202020, 0x20202020, 0x20202020);
        CHECK.due("byte 160 is no blank", cuts.text(20), Check.fault(0, 1));
        cuts.feed(0x206E6574, 0x20612032, 0x3B202020, 0x20202020, 0x20202020);
        CHECK.due("byte 32 is one", cuts.text(20), 1);
    }

    private static void textTakesTheFirstBytes() {
        SquareCuts cuts = new SquareCuts();
        String text = "drawn a (1);drawn b (2);drawn c (3);     ";
        int[][] due = {{0, 0}, {12, 1}, {24, 2}, {36, 3}, {40, 3}};
        for (int[] one : due) {
            Check.put(cuts, text.substring(0, 40));
            CHECK.due("the first " + one[0] + " bytes", cuts.text(one[0]), one[1]);
            CHECK.due("rectangles of " + one[0] + " bytes", cuts.count(0), one[1]);
        }
        Check.put(cuts, text.substring(0, 40));
        CHECK.due("the bytes without the last one", cuts.text(35), Check.fault(35, 1));
        // What stands behind the first n bytes makes no word or number longer.
        Check.put(cuts, "net a 22;");
        CHECK.due("a number that n cuts", cuts.text(7), Check.fault(7, 1));
        Check.put(cuts, "net a 2;net abcdefg 2;");
        CHECK.due("a word that n cuts", cuts.text(18), Check.fault(18, 1));
        Check.put(cuts, " ".repeat(593) + "net a 2");
        CHECK.due("a number that ends with a full tape", cuts.text(600), Check.fault(600, 1));
        Check.put(cuts, " ".repeat(597) + "net");
        CHECK.due("a word that ends with a full tape", cuts.text(600), Check.fault(600, 1));
        Check.put(cuts, "drawn a (22)(22);   ");
        CHECK.due("bytes of the tape before are gone", cuts.text(17), 1);
    }

    private static void textOfTooManyOrBelowZero() {
        int[] wrong = {41, 60, 600, 601, -1, -2, Integer.MAX_VALUE, Integer.MIN_VALUE};
        for (int n : wrong) {
            REFUSALS.leaves("text(" + n + ") of 40 bytes", Refusals::inUse, c -> c.text(n), NONE);
        }
        REFUSALS.leaves("text(1) of an empty tape", Refusals::inUseWithoutTape, c -> c.text(1), NONE);
        SquareCuts cuts = Refusals.inUse();
        CHECK.due("text(40) of 40 bytes", cuts.text(40), 1);
        cuts = withFullTape();
        CHECK.due("text(601) of 600", cuts.text(601), NONE);
        CHECK.due("the tape stays", cuts.count(4), 600);
    }

    private static void textMakesTheTapeEmpty() {
        String text = "drawn a (1);drawn b (2);                ";
        int[] taken = {0, 12, 24, 40, 3};
        for (int n : taken) {
            SquareCuts cuts = new SquareCuts();
            Check.put(cuts, text);
            cuts.text(n);
            CHECK.due("bytes behind text(" + n + ")", cuts.count(4), 0);
            CHECK.due("one more than none", cuts.text(1), NONE);
            CHECK.due("the next bytes are the first ones", Check.tell(cuts, "net a 2;"), 1);
        }
    }

    private static void textOfNoBytes() {
        SquareCuts cuts = Refusals.inUse();
        CHECK.due("text(0)", cuts.text(0), 0);
        CHECK.due("no rectangles", cuts.count(0), 0);
        CHECK.due("none numbered 0", cuts.rect(0, 7), NONE);
        CHECK.due("the tape is empty", cuts.count(4), 0);
        CHECK.due("nothing to undo", cuts.undo(), NONE);
        CHECK.due("nothing kept in 0", cuts.keep(0, true), false);
        CHECK.due("nothing kept in 1", cuts.keep(1, true), false);
        CHECK.due("also from an empty tape", cuts.text(0), 0);
    }

    private static void faultLeavesAllElse() {
        String[] texts = {"drawn z (1)", "drawn z (5);?", "net z 2;drawn z (5);", "drawn z (5);drawn y (0);",
            nets(6) + "net g 2;", "net z 2 " + "0 1 ".repeat(15) + ";"};
        int[] dues = {Check.fault(11, 1), Check.fault(12, 1), Check.fault(14, 2), Check.fault(21, 3),
            Check.fault(48, 4), Check.fault(64, 4)};
        for (int i = 0; i < texts.length; i++) {
            String text = texts[i];
            REFUSALS.leaves("text " + text, Refusals::inUseWithoutTape, c -> Check.tell(c, text), dues[i]);
        }
        SquareCuts cuts = Refusals.inUse();
        CHECK.due("a fault takes the tape", cuts.text(3), Check.fault(0, 1));
        CHECK.due("which is empty then", cuts.count(4), 0);
        CHECK.due("acts can be undone still", cuts.undo(), 0);
        CHECK.due("KEEPS are there still", cuts.keep(0, true), true);
    }

    private static void newTextForgetsActsAndKeeps() {
        SquareCuts cuts = Refusals.inUse();
        CHECK.due("one act", cuts.count(3), 1);
        CHECK.due("a new text", cuts.text(40), 1);
        CHECK.due("no acts", cuts.count(3), 0);
        CHECK.due("undo", cuts.undo(), NONE);
        CHECK.due("nothing in 0", cuts.keep(0, true), false);
        CHECK.due("nothing in 1", cuts.keep(1, true), false);
        CHECK.due("its own one", cuts.rect(0, 1), 14);
        CHECK.due("no other one", cuts.rect(1, 7), NONE);
    }

    // ---- tokens

    private static void blanksAre32And10() {
        good(" ", 0);
        good("\n", 0);
        good("\n \n drawn\na\n( 1 1\n)\n( 2 ) ;\n ", 1);
        good("drawn a(1 1)(2);net b 2 0 1;", 2);
        fault("dr awn a (1);", 0, 1);
        fault("drawn a (1\n1)(1 1)(2 2;", 22, 1);
        SquareCuts cuts = Check.told("drawn a (1 1)(2);drawn b (11)(11);");
        CHECK.due("a blank parts numbers", cuts.rect(0, 0), 3);
        CHECK.due("none does not", cuts.rect(1, 0), 2);
    }

    private static boolean isBlank(int sign) {
        return sign == 32 || sign == 10;
    }

    private static void everyByteWhereANameStands() {
        for (int sign = 0; sign < 256; sign++) {
            int due = sign >= 'a' && sign <= 'z' ? 1 : isBlank(sign) ? Check.fault(6, 1) : Check.fault(4, 1);
            CHECK.due("byte " + sign + " as a name", answer("net " + (char) sign + " 2;"), due);
        }
    }

    private static void everyByteWhereANumberStands() {
        for (int sign = 0; sign < 256; sign++) {
            int due = sign >= '1' && sign <= '9' ? 1 : sign == '0' ? Check.fault(9, 3)
                : isBlank(sign) ? Check.fault(10, 1) : Check.fault(9, 1);
            CHECK.due("byte " + sign + " as a number", answer("drawn a (" + (char) sign + ");"), due);
        }
    }

    private static void everyByteWhereALineEnds() {
        for (int sign = 0; sign < 256; sign++) {
            int due = sign == ';' ? 1 : sign >= '0' && sign <= '9' ? Check.fault(6, 3)
                : isBlank(sign) ? Check.fault(8, 1) : Check.fault(7, 1);
            CHECK.due("byte " + sign + " as an end", answer("net a 2" + (char) sign), due);
            int behind = isBlank(sign) ? 1 : Check.fault(8, 1);
            CHECK.due("byte " + sign + " behind a line", answer("net a 2;" + (char) sign), behind);
        }
    }

    private static void wordsHaveOneToSixLetters() {
        for (int letters = 1; letters <= 6; letters++) {
            good("net " + "z".repeat(letters) + " 2;", 1);
        }
        for (int letters = 7; letters <= 20; letters++) {
            fault("net " + "z".repeat(letters) + " 2;", 4, 1);
        }
        fault("drawnnn a (1);", 0, 1);
        // The last six letters alone would be a name, and the last five the word drawn.
        fault("net abcdefghijkl 2;", 4, 1);
        fault("aaadrawn a (1);", 0, 1);
        good("net abcdef2;", 1);
    }

    private static void numbersHaveOneToFourDigits() {
        String[] twos = {"2", "02", "002", "0002"};
        for (String two : twos) {
            good("net a " + two + ";", 1);
        }
        fault("net a 00002;", 6, 1);
        fault("net a 000000000000000002;", 6, 1);
        good("drawn a (0001);", 1);
        fault("drawn a (00001);", 9, 1);
        fault("drawn a (99990);", 9, 1);
        fault("net a 2 0 00001;", 10, 1);
        // 4294967297 is 1 in 32 bits, 18446744073709551617 in 64.
        fault("drawn a (4294967297);", 9, 1);
        fault("drawn a (18446744073709551617);", 9, 1);
    }

    private static void signsStandAlone() {
        good("drawn a(1)(1);net b 2;", 2);
        fault("drawn a ((1));", 9, 1);
        fault("drawn a (1));", 11, 1);
        fault("drawn a (1);;", 12, 1);
        fault("drawn a )1(;", 8, 1);
    }

    // ---- lines

    private static void textMayHaveNoLines() {
        good("", 0);
        good(" \n ", 0);
        good("net a 2;", 1);
    }

    private static void sixRectanglesAtMost() {
        for (int number = 1; number <= 6; number++) {
            good(nets(number), number);
        }
        fault(nets(6) + "net g 2;", 48, 4);
        fault(nets(6) + "drawn g (1);", 48, 4);
        fault(nets(6) + "  net", 50, 4);
        fault(nets(7) + nets(7), 48, 4);
        // One too many is told by its first word; what is no such word is no line.
        fault(nets(6) + "nett g 2;", 48, 1);
        fault(nets(6) + ";", 48, 1);
        fault(nets(6) + "2", 48, 1);
        SquareCuts cuts = Check.told("drawn a (1);drawn b (2);drawn c (3);drawn d (4);drawn e (5);drawn f (6);");
        for (int i = 0; i < 6; i++) {
            CHECK.due("numbered as told: " + i, cuts.rect(i, 1), i + 1);
        }
        CHECK.due("no seventh", cuts.rect(6, 1), NONE);
    }

    private static void drawnHasAGroupAtLeast() {
        fault("drawn a;", 7, 1);
        fault("drawn a 1;", 8, 1);
        good("drawn a (1);", 1);
        good("drawn a (1)(1);", 1);
    }

    private static void groupHasANumberAtLeast() {
        fault("drawn a ();", 9, 1);
        fault("drawn a (1)();", 12, 1);
        good("drawn a (1);", 1);
        fault("drawn a (a);", 9, 1);
    }

    private static void sizesFrom1To9999() {
        fault("drawn a (0);", 9, 3);
        fault("drawn a (0000);", 9, 3);
        fault("drawn a (1 1)(1 0);", 16, 3);
        good("drawn a (1);", 1);
        good("drawn a (9999);", 1);
        fault("drawn a (10000);", 9, 1);
        SquareCuts cuts = Check.told("drawn a (1);drawn b (9999);");
        CHECK.due("the least", cuts.square(0, 0, 2), 1);
        CHECK.due("the greatest", cuts.square(1, 0, 2), 9999);
    }

    private static void twentyFourNumbersAtMost() {
        good("drawn a (" + "1 ".repeat(23) + ");", 1);
        good("drawn a (" + "1 ".repeat(24) + ");", 1);
        fault("drawn a (" + "1 ".repeat(25) + ");", 57, 4);
        fault("drawn a (" + "1 ".repeat(24) + "9999", 57, 4);
        good("drawn a " + "(1)".repeat(24) + ";", 1);
        fault("drawn a " + "(1)".repeat(25) + ";", 81, 4);
        fault("drawn a " + "(1 1)".repeat(12) + "(1);", 69, 4);
        // Of the 25th group the sign is no fault yet.
        fault("drawn a " + "(1)".repeat(24) + "(;", 81, 1);
        good("drawn a (" + "1 ".repeat(24) + ");drawn b (" + "1 ".repeat(24) + ");", 2);
        SquareCuts cuts = Check.told("drawn a (" + "1 ".repeat(24) + ");drawn b " + "(1)".repeat(24) + ";");
        CHECK.due("24 in one group", cuts.rect(0, 0), 24);
        CHECK.due("24 in groups of one", cuts.rect(1, 0), 24);
        CHECK.due("24 laid", cuts.laid(1), 24);
    }

    private static void pointsFrom2To9() {
        fault("net a 0;", 6, 3);
        fault("net a 1;", 6, 3);
        for (int points = 2; points <= 9; points++) {
            good("net a " + points + " 0 1;", 1);
        }
        fault("net a 10;", 6, 3);
        fault("net a 9999;", 6, 3);
        fault("net a;", 5, 1);
        SquareCuts cuts = Check.told("net a 9 0 1 1 2 2 3 3 4 4 5 5 6 6 7 7 8;net b 2 0 1;");
        CHECK.due("the first of nine", cuts.level(0, 0), 8);
        CHECK.due("the last of nine", cuts.level(0, 8), 0);
        CHECK.due("no tenth", cuts.level(0, 9), Integer.MIN_VALUE);
        CHECK.due("the last of two", cuts.level(1, 1), 0);
        CHECK.due("no third", cuts.level(1, 2), Integer.MIN_VALUE);
    }

    private static void fourteenWiresAtMost() {
        for (int wires = 0; wires <= 14; wires++) {
            SquareCuts cuts = new SquareCuts();
            CHECK.due(wires + " wires", Check.tell(cuts, "net a 2 " + "0 1 ".repeat(wires) + ";"), 1);
            CHECK.due(wires + " trees", cuts.trees(0), wires);
        }
        fault("net a 2 " + "0 1 ".repeat(15) + ";", 64, 4);
        fault("net a 2 " + "0 1 ".repeat(14) + "1", 64, 4);
        fault("net a 2 " + "0 1 ".repeat(14) + "(", 64, 1);
        good("net a 2 " + "0 1 ".repeat(14) + ";net b 2 " + "0 1 ".repeat(14) + ";", 2);
        fault("net a 2 0;", 9, 1);
        fault("net a 2 0 1 1;", 13, 1);
    }

    private static void pointsOfWiresFromZeroOn() {
        for (int points = 2; points <= 9; points++) {
            good("net a " + points + " 0 " + (points - 1) + ";", 1);
            good("net a " + points + " " + (points - 1) + " 0;", 1);
            fault("net a " + points + " 0 " + points + ";", 10, 3);
            fault("net a " + points + " " + points + " 0;", 8, 3);
        }
        fault("net a 2 9999 0;", 8, 3);
        fault("net a 2 0 9999;", 10, 3);
        // The points of each net are its own.
        fault("net a 9 0 8;net b 2 0 8;", 22, 3);
    }

    private static void wiresHaveTwoUnlikePoints() {
        fault("net a 2 0 0;", 10, 3);
        fault("net a 2 1 1;", 10, 3);
        fault("net a 9 8 8;", 10, 3);
        fault("net a 3 0 1 1 1;", 14, 3);
        fault("net a 3 1 0001;", 10, 3);
        good("net a 3 0 1 1 0 1 2 2 1;", 1);
    }

    private static void namesAreNotDrawnOrNet() {
        fault("net net 2;", 4, 1);
        fault("net drawn 2;", 4, 1);
        fault("drawn net (1);", 6, 1);
        fault("drawn drawn (1);", 6, 1);
        good("net nets 2;net ne 2;net draw 2;net drawns 2;net tne 2;", 5);
        fault("net 2;", 4, 1);
        fault("net a b 2;", 6, 1);
    }

    private static void noTwoNamesAreAlike() {
        fault("net a 2;net a 2;", 12, 2);
        fault("net abcdef 2;drawn abcdef (1);", 19, 2);
        fault("drawn a (1);drawn b (1);drawn b (1);", 30, 2);
        fault(nets(5) + "net a 2;", 44, 2);
        good("net a 2;net aa 2;net aaa 2;net aaaa 2;net aaaaa 2;net aaaaaa 2;", 6);
        good("net abcdef 2;net abcdeg 2;net bbcdef 2;", 3);
        SquareCuts cuts = Check.told("net a 2;");
        CHECK.due("names of the text before are free", Check.tell(cuts, "drawn a (1);"), 1);
        CHECK.due("also those of one with a fault", Check.tell(cuts, "net b 2;net c 1;"), Check.fault(14, 3));
        CHECK.due("free", Check.tell(cuts, "net b 2;net c 2;"), 2);
    }

    // ---- which fault

    private static void theLeastPlaceWins() {
        fault("drawn a (0);?", 9, 3);
        fault("drawn a ?0);", 8, 1);
        fault("net a 2;net a 1;", 12, 2);
        fault("net b 1;net b 2;", 6, 3);
        fault("net a 3 3 3;", 8, 3);
        fault("net a 1 5 5 abcdefgh", 6, 3);
        fault(nets(6) + "net a 1;", 48, 4);
        fault("drawn a (" + "1 ".repeat(24) + "1 0);", 57, 4);
        fault("drawn a (0 " + "1 ".repeat(24) + ");", 9, 3);
        fault("net a 2 " + "0 1 ".repeat(14) + "0 0;", 64, 4);
    }

    private static void firstOfTheListAtOnePlace() {
        fault("drawn a (" + "1 ".repeat(24) + "0);", 57, 3);
        fault("drawn a (" + "1 ".repeat(24) + "11111);", 57, 1);
        fault("net a 2 " + "0 1 ".repeat(14) + "2 0;", 64, 3);
        fault("net a 2 " + "0 1 ".repeat(14) + "00000 1;", 64, 1);
    }

    private static void placeOfTheEnd() {
        String line = "drawn a (1 1);";
        for (int n = 1; n < line.length(); n++) {
            // Of a shorter word no text goes on: its first byte is the place then.
            int place = n < 5 ? 0 : n;
            SquareCuts cuts = new SquareCuts();
            Check.put(cuts, line);
            CHECK.due("the first " + n + " bytes of a line", cuts.text(n), Check.fault(place, 1));
        }
        fault("net a 2", 7, 1);
        fault("net a 2 \n ", 10, 1);
        SquareCuts cuts = new SquareCuts();
        Check.put(cuts, "net a 2" + " ".repeat(593));
        CHECK.due("the end of a full tape", cuts.text(600), Check.fault(600, 1));
    }

    private static void placeOfATokenIsItsFirstByte() {
        fault("  wrong", 2, 1);
        fault("net a 2 0 1 1 12;", 14, 3);
        fault("net abc 2;  net  abc 2;", 17, 2);
        fault("drawn a (12 0034 0000);", 17, 3);
        fault(nets(6) + "\n\n drawn g (1);", 51, 4);
        String late = "net a 2;" + " ".repeat(591) + "?";
        CHECK.due("the last byte of a full tape", answer(late), Check.fault(599, 1));
    }
}
