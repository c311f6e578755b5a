/** Promises 1 to 3: a new object, the tape, the text and its faults. */
public final class TextTest {
    private static final Check CHECK = new Check("TextTest");

    public static void main(String[] args) {
        newObject();
        feeding();
        takingFromTheTape();
        tokens();
        grammar();
        names();
        numbers();
        limits();
        leastPlaceFirst();
        faultsLeaveAllElse();
        newTextForgets();
        CHECK.end();
    }

    private static void newObject() {
        SquareCuts cuts = new SquareCuts();
        for (int what = 0; what <= 5; what++) {
            CHECK.due("new: count(" + what + ")", cuts.count(what), 0);
        }
        CHECK.due("new: rect", cuts.rect(0, 0), SquareCuts.NONE);
        CHECK.due("new: keep back", cuts.keep(0, true), false);
        CHECK.due("new: undo", cuts.undo(), SquareCuts.NONE);
        CHECK.due("new: at", cuts.at(0), SquareCuts.NONE);
        CHECK.due("new: text(0)", cuts.text(0), 0);
        CHECK.due("new: text(1)", cuts.text(1), SquareCuts.NONE);
    }

    private static void feeding() {
        SquareCuts cuts = new SquareCuts();
        for (int i = 1; i <= 30; i++) {
            CHECK.due("feed " + i, cuts.feed(-1, 0, 1, 2, 3), 20 * i);
        }
        CHECK.due("feed 31", cuts.feed(0, 0, 0, 0, 0), SquareCuts.NONE);
        CHECK.due("a full tape", cuts.count(4), 600);
        CHECK.due("text of too many", cuts.text(601), SquareCuts.NONE);
        CHECK.due("text of -1", cuts.text(-1), SquareCuts.NONE);
        CHECK.due("text of the least int", cuts.text(Integer.MIN_VALUE), SquareCuts.NONE);
        CHECK.due("the tape stays", cuts.count(4), 600);
        CHECK.due("text of bytes 255", cuts.text(600), Check.fault(0, 1));
        CHECK.due("the tape is empty", cuts.count(4), 0);
        CHECK.due("feed again", cuts.feed(0, 0, 0, 0, 0), 20);
    }

    private static void takingFromTheTape() {
        SquareCuts cuts = new SquareCuts();
        Check.put(cuts, "drawn a (1);drawn b (2);");
        CHECK.due("fed", cuts.count(4), 40);
        CHECK.due("the first 12 bytes alone", cuts.text(12), 1);
        CHECK.due("all bytes are gone", cuts.count(4), 0);
        CHECK.due("WIDE of it", cuts.rect(0, 1), 1);
        Check.put(cuts, "drawn a (1);");
        CHECK.due("text(0) takes the tape too", cuts.text(0), 0);
        Check.put(cuts, "net abcdefg 2;");
        CHECK.due("a word that n cuts", cuts.text(10), Check.fault(10, 1));
        Check.put(cuts, "net a 2 0 1;net a 2;");
        CHECK.due("a number that n cuts", cuts.text(11), Check.fault(11, 1));
        Check.put(cuts, "net a 22;");
        CHECK.due("a number that n cuts is shorter", cuts.text(7), Check.fault(7, 1));
        CHECK.due("nothing on it", cuts.count(4), 0);
        CHECK.due("no rectangles", cuts.count(0), 0);
        String full = "net a 2;".repeat(1) + " ".repeat(592);
        CHECK.due("a text of 600 bytes", answer(full), 1);
    }

    private static void tokens() {
        CHECK.due("blanks 32 and 10", answer("\n drawn\n a(1\n2)\n(3 )  ;\n "), 1);
        CHECK.due("blanks alone", answer(" \n  "), 0);
        CHECK.due("no blanks where none is needed", answer("net a2 0 1;drawn b(1)(2);"), 2);
        CHECK.due("a digit ends a word", answer("net a2;"), 1);
        CHECK.due("a letter ends a number", answer("net a 2b;"), Check.fault(7, 1));
        CHECK.due("byte 9", answer("net\ta 2;"), Check.fault(3, 1));
        CHECK.due("byte 13", answer("net a 2;\r"), Check.fault(8, 1));
        CHECK.due("byte 0", answer("net a 2;\0"), Check.fault(8, 1));
        CHECK.due("byte 128", answer("net \u0080 2;"), Check.fault(4, 1));
        CHECK.due("byte 225", answer("net \u00e1 2;"), Check.fault(4, 1));
        CHECK.due("a great letter", answer("net A 2;"), Check.fault(4, 1));
        CHECK.due("a name of 6", answer("net abcdef 2;"), 1);
        CHECK.due("a name of 7", answer("net abcdefg 2;"), Check.fault(4, 1));
        CHECK.due("a name of 14", answer("net abcdefgabcdefg 2;"), Check.fault(4, 1));
        CHECK.due("a number of 4 digits", answer("net a 0002 0 0001;"), 1);
        CHECK.due("a number of 5 digits", answer("net a 00002;"), Check.fault(6, 1));
        CHECK.due("a number of 20 digits", answer("drawn a (11111111111111111111);"), Check.fault(9, 1));
        CHECK.due("9999", answer("drawn a (9999);"), 1);
        CHECK.due("10000", answer("drawn a (10000);"), Check.fault(9, 1));
        CHECK.due("the first and the last letter", answer("net az 2;"), 1);
        CHECK.due("the first and the last digit", answer("drawn a (90)(90);"), 1);
        CHECK.due("` before a", answer("`"), Check.fault(0, 1));
        CHECK.due("{ behind z", answer("{"), Check.fault(0, 1));
        CHECK.due("/ before 0", answer("drawn a (/);"), Check.fault(9, 1));
        CHECK.due(": behind 9", answer("drawn a (:);"), Check.fault(9, 1));
    }

    private static void grammar() {
        CHECK.due("empty", answer(""), 0);
        CHECK.due("no line", answer("other a 2;"), Check.fault(0, 1));
        CHECK.due("a sign", answer(";"), Check.fault(0, 1));
        CHECK.due("drawn and no more", answer("drawn "), Check.fault(6, 1));
        CHECK.due("no name", answer("drawn (1);"), Check.fault(6, 1));
        CHECK.due("drawn as a name", answer("net drawn 2;"), Check.fault(4, 1));
        CHECK.due("net as a name", answer("drawn net (1);"), Check.fault(6, 1));
        CHECK.due("no group", answer("drawn a ;"), Check.fault(8, 1));
        CHECK.due("an empty group", answer("drawn a ();"), Check.fault(9, 1));
        CHECK.due("a group in a group", answer("drawn a (1(2));"), Check.fault(10, 1));
        CHECK.due("a group without an end", answer("drawn a (1;"), Check.fault(10, 1));
        CHECK.due("a number outside", answer("drawn a (1)2;"), Check.fault(11, 1));
        CHECK.due("the end behind a group", answer("drawn a (1)  "), Check.fault(13, 1));
        CHECK.due("the end in a group", answer("drawn a (1"), Check.fault(10, 1));
        CHECK.due("a net without points", answer("net a ;"), Check.fault(6, 1));
        CHECK.due("a group in a net", answer("net a (2);"), Check.fault(6, 1));
        CHECK.due("half a wire", answer("net a 2 0 1 0;"), Check.fault(13, 1));
        CHECK.due("the end of a net", answer("net a 2"), Check.fault(7, 1));
        CHECK.due("a net with no wires", answer("net a 2;"), 1);
        CHECK.due("no line behind a line", answer("net a 2;;"), Check.fault(8, 1));
    }

    private static void names() {
        CHECK.due("a name again", answer("net a 2;drawn a (1);"), Check.fault(14, 2));
        CHECK.due("a name again, of three", answer("net a 2;net b 2;net a 2;"), Check.fault(20, 2));
        CHECK.due("names that begin alike", answer("net a 2;net aa 2;net aaaaaa 2;"), 3);
        CHECK.due("names with like letters", answer("net ab 2;net ba 2;"), 2);
        SquareCuts cuts = Check.told("net a 2;");
        CHECK.due("a name of the text before", Check.tell(cuts, "net a 2;"), 1);
    }

    private static void numbers() {
        CHECK.due("a size of 0", answer("drawn a (1 0);"), Check.fault(11, 3));
        CHECK.due("a size of 0000", answer("drawn a (0000);"), Check.fault(9, 3));
        CHECK.due("1 point", answer("net a 1;"), Check.fault(6, 3));
        CHECK.due("0 points", answer("net a 0;"), Check.fault(6, 3));
        CHECK.due("2 points", answer("net a 2 0 1;"), 1);
        CHECK.due("9 points", answer("net a 9 0 8;"), 1);
        CHECK.due("10 points", answer("net a 10;"), Check.fault(6, 3));
        CHECK.due("a first point too large", answer("net a 3 3 0;"), Check.fault(8, 3));
        CHECK.due("a second point too large", answer("net a 3 0 3;"), Check.fault(10, 3));
        CHECK.due("two like points", answer("net a 3 1 1;"), Check.fault(10, 3));
        CHECK.due("two like points, told unlike", answer("net a 3 1 01;"), Check.fault(10, 3));
    }

    private static void limits() {
        CHECK.due("6 lines", answer(nets(6)), 6);
        CHECK.due("a 7th net", answer(nets(6) + "net g 2;"), Check.fault(48, 4));
        CHECK.due("a 7th drawn", answer(nets(6) + "drawn g (1);"), Check.fault(48, 4));
        CHECK.due("no 7th line", answer(nets(6) + "nets"), Check.fault(48, 1));
        CHECK.due("24 numbers", answer("drawn a (" + "1 ".repeat(24) + ");"), 1);
        CHECK.due("25 numbers", answer("drawn a (" + "1 ".repeat(25) + ");"), Check.fault(9 + 48, 4));
        CHECK.due("24 groups", answer("drawn a " + "(1)".repeat(24) + ";"), 1);
        CHECK.due("25 groups", answer("drawn a " + "(1)".repeat(25) + ";"), Check.fault(8 + 73, 4));
        CHECK.due("a 25th number of 0", answer("drawn a (" + "1 ".repeat(24) + "0);"), Check.fault(57, 3));
        CHECK.due("an empty 25th group", answer("drawn a " + "(1)".repeat(24) + "();"), Check.fault(81, 1));
        CHECK.due("14 wires", answer("net a 2 " + "0 1 ".repeat(14) + ";"), 1);
        CHECK.due("15 wires", answer("net a 2 " + "0 1 ".repeat(15) + ";"), Check.fault(64, 4));
        CHECK.due("a 15th wire's first point that can't be", answer("net a 2 " + "0 1 ".repeat(14) + "2 1;"),
                Check.fault(64, 3));
        CHECK.due("half a 15th wire", answer("net a 2 " + "0 1 ".repeat(14) + "0;"), Check.fault(64, 4));
        CHECK.due("limits of each line alone", answer("drawn a (" + "1 ".repeat(24) + ");drawn b ("
                + "1 ".repeat(24) + ");net c 2 " + "0 1 ".repeat(14) + ";"), 3);
    }

    private static void leastPlaceFirst() {
        CHECK.due("a number, then no token", answer("drawn a (0);?"), Check.fault(9, 3));
        CHECK.due("no token, then a number", answer("?drawn a (0);"), Check.fault(0, 1));
        CHECK.due("a name, then a number", answer("net a 2;net a 1;"), Check.fault(12, 2));
        CHECK.due("a number, then the end", answer("net a 1"), Check.fault(6, 3));
        CHECK.due("a number, then no text", answer("net a 2 0 0 0;"), Check.fault(10, 3));
    }

    private static void faultsLeaveAllElse() {
        SquareCuts cuts = Check.told("drawn a (1 1);");
        cuts.grow(0, true);
        cuts.keep(1, false);
        cuts.print(0);
        CHECK.due("a fault", Check.tell(cuts, "net a 2"), Check.fault(7, 1));
        CHECK.due("rectangles stay", cuts.count(0), 2);
        CHECK.due("acts stay", cuts.count(3), 1);
        CHECK.due("what was printed stays", cuts.count(5), 5);
        CHECK.due("the tape doesn't", cuts.count(4), 0);
        CHECK.due("SQUARES stay", cuts.rect(1, 0), 3);
        CHECK.due("KEEPS stay", cuts.keep(1, true), true);
    }

    private static void newTextForgets() {
        SquareCuts cuts = Check.told("drawn a (1 1);");
        cuts.grow(0, true);
        cuts.keep(0, false);
        cuts.keep(1, false);
        cuts.print(0);
        CHECK.due("a new text", Check.tell(cuts, "net b 2 0 1;"), 1);
        CHECK.due("its kind", cuts.rect(0, 7), 1);
        CHECK.due("nothing to undo", cuts.undo(), SquareCuts.NONE);
        CHECK.due("nothing kept in 0", cuts.keep(0, true), false);
        CHECK.due("nothing kept in 1", cuts.keep(1, true), false);
        CHECK.due("what was printed stays", cuts.count(5), 5);
    }

    private static String nets(int number) {
        StringBuilder text = new StringBuilder();
        for (int i = 0; i < number; i++) {
            text.append("net ").append((char) ('a' + i)).append(" 2;");
        }
        return text.toString();
    }

    private static int answer(String text) {
        return Check.tell(new SquareCuts(), text);
    }
}
