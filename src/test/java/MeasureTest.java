/** Promises 4 to 8: rect, square, laid, area, least. */
public final class MeasureTest {
    private static final Check CHECK = new Check("MeasureTest");

    public static void main(String[] args) {
        perfectRectangle();
        smallOnes();
        partsAndCrosses();
        failing();
        others();
        largeOnes();
        CHECK.end();
    }

    private static void rect(String code, int... due) {
        SquareCuts cuts = Check.told("drawn a " + code + ";");
        for (int what = 0; what < due.length; what++) {
            CHECK.due(code + ": rect what " + what, cuts.rect(0, what), due[what]);
        }
        CHECK.due(code + ": laid", cuts.laid(0), due[0]);
        CHECK.due(code + ": area", cuts.area(0), (long) due[1] * due[2]);
    }

    private static void perfectRectangle() {
        rect("(18 15)(7 8)(14 4)(10 1)(9)", 9, 33, 32, 1, 1, 0, 0, 0);
        SquareCuts cuts = Check.told("drawn a (18 15)(7 8)(14 4)(10 1)(9);");
        int[][] due = {{0, 0, 18}, {18, 0, 15}, {18, 15, 7}, {25, 15, 8}, {0, 18, 14}, {14, 18, 4}, {14, 22, 10},
            {24, 22, 1}, {24, 23, 9}};
        for (int k = 0; k < due.length; k++) {
            for (int what = 0; what < 3; what++) {
                CHECK.due("square " + k + " " + what, cuts.square(0, k, what), due[k][what]);
            }
        }
        CHECK.due("least", cuts.least(0), 7);
    }

    private static void smallOnes() {
        rect("(1)", 1, 1, 1, 0, 1, 0, 0, 0);
        rect("(7)", 1, 7, 7, 0, 1, 0, 0, 0);
        rect("(1 1)", 2, 2, 1, 0, 1, 0, 0, 0);
        rect("(2)(2)", 2, 2, 4, 0, 1, 0, 0, 0);
        SquareCuts cuts = Check.told("drawn a (1);drawn b (2 1 2)(1)(5);drawn c (3)(1 1 1);");
        CHECK.due("least of one", cuts.least(0), 0);
        CHECK.due("the first of two least", cuts.least(1), 1);
        CHECK.due("the first of three least", cuts.least(2), 1);
    }

    private static void partsAndCrosses() {
        rect("(1 1)(1 1)", 4, 2, 2, 0, 0, 4, 1, 0);
        rect("(1 1 1)(1 1 1)(1 1 1)", 9, 3, 3, 0, 0, 26, 4, 0);
        rect("(1 1 1 1)", 4, 4, 1, 0, 0, 5, 0, 0);
        rect("(2 1 2)(1)(5)", 5, 5, 7, 0, 0, 4, 0, 0);
        rect("(2 1)(1)", 3, 3, 2, 0, 0, 1, 0, 0);
        rect("(2 2)(1 1 1 1)", 6, 4, 3, 0, 0, 9, 1, 0);
    }

    private static void fails(String code, int laid) {
        SquareCuts cuts = Check.told("drawn a " + code + ";");
        for (int what = 0; what < 7; what++) {
            CHECK.due(code + ": rect what " + what, cuts.rect(0, what), -2);
        }
        CHECK.due(code + ": its kind", cuts.rect(0, 7), 0);
        CHECK.due(code + ": no such what", cuts.rect(0, 8), -1);
        CHECK.due(code + ": laid", cuts.laid(0), laid);
        CHECK.due(code + ": area", cuts.area(0), -2);
        CHECK.due(code + ": least", cuts.least(0), -2);
        CHECK.noSuch(code + ": square", () -> cuts.square(0, 0, 0));
    }

    private static void failing() {
        fails("(2 1)", 2);
        fails("(2 1)(3)", 2);
        fails("(3 1)(2)", 2);
        fails("(4 2)(1)(1)", 2);
        fails("(4 2)(1 1)", 4);
        fails("(4 2)(1 1 1)", 2);
        fails("(2 1)(1)(1)", 3);
        fails("(2 1)(1)(2 1)", 5);
        fails("(18 15)(7 8)(14 4)(10 1)", 8);
        fails("(18 15)(7 8)(14 4)(10 1)(8)", 8);
    }

    private static void others() {
        SquareCuts cuts = Check.told("drawn a (2 1)(1);net b 2 0 1;");
        cuts.grow(0, false);
        int[] wrong = {-1, 3, 12, Integer.MIN_VALUE, Integer.MAX_VALUE};
        for (int number : wrong) {
            CHECK.due("rect of none", cuts.rect(number, 0), -1);
            CHECK.due("rect 7 of none", cuts.rect(number, 7), -1);
            CHECK.noSuch("square of none", () -> cuts.square(number, 0, 0));
            CHECK.noSuch("no such square", () -> cuts.square(0, number, 0));
            CHECK.noSuch("square, no such what", () -> cuts.square(0, 0, number));
            CHECK.due("laid of none", cuts.laid(number), -1);
            CHECK.due("area of none", cuts.area(number), -1);
            CHECK.due("least of none", cuts.least(number), -1);
        }
        CHECK.due("what -1", cuts.rect(0, -1), -1);
        CHECK.due("what 8", cuts.rect(0, 8), -1);
        CHECK.due("laid of a net", cuts.laid(1), -2);
        CHECK.due("laid of one made", cuts.laid(2), -2);
        CHECK.due("kind of a drawn one", cuts.rect(0, 7), 0);
        CHECK.due("kind of a net", cuts.rect(1, 7), 1);
        CHECK.due("kind of one made", cuts.rect(2, 7), 2);
    }

    private static void largeOnes() {
        SquareCuts cuts = Check.told("drawn a (" + "9999 ".repeat(24) + ");drawn b " + "(9999)".repeat(24) + ";");
        CHECK.due("the widest", cuts.rect(0, 1), 239976);
        CHECK.due("its HIGH", cuts.rect(0, 2), 9999);
        CHECK.due("the highest", cuts.rect(1, 2), 239976);
        CHECK.due("its AREA", cuts.area(1), 239976L * 9999);
        CHECK.due("its PARTS", cuts.rect(1, 5), 24 * 23 / 2 - 1);
        cuts = Check.told("drawn a (9999);");
        cuts.times(0, 9999);
        cuts.times(1, 10);
        CHECK.due("a large AREA", cuts.area(2), 999800010L * 999800010L);
    }
}
