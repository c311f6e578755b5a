/** Promises 16 to 18: lines, line, side. */
public final class LineTest {
    private static final Check CHECK = new Check("LineTest");

    public static void main(String[] args) {
        perfectRectangle();
        twoAtOneDepth();
        touchingAtACross();
        oneSquare();
        manyLines();
        others();
        CHECK.end();
    }

    private static void lines(SquareCuts cuts, int rect, int[]... due) {
        CHECK.due("lines", cuts.lines(rect), due.length);
        for (int i = 0; i < due.length; i++) {
            for (int what = 0; what < 4; what++) {
                CHECK.due("line " + i + " " + what, cuts.line(rect, i, what), due[i][what]);
            }
        }
    }

    private static void sides(SquareCuts cuts, int rect, boolean lower, int... due) {
        for (int k = 0; k < due.length; k++) {
            CHECK.due("side " + k + " " + lower, cuts.side(rect, k, lower), due[k]);
        }
        CHECK.due("no such side", cuts.side(rect, due.length, lower), -1);
        CHECK.due("no such side", cuts.side(rect, -1, lower), -1);
    }

    private static void perfectRectangle() {
        SquareCuts cuts = Check.told("drawn a (18 15)(7 8)(14 4)(10 1)(9);");
        lines(cuts, 0, new int[] {0, 0, 33, 33}, new int[] {15, 18, 33, 0}, new int[] {18, 0, 18, 0},
            new int[] {22, 14, 25, 0}, new int[] {23, 24, 33, 0}, new int[] {32, 0, 33, -33});
        sides(cuts, 0, false, 0, 0, 1, 1, 2, 2, 3, 3, 4);
        sides(cuts, 0, true, 2, 1, 3, 4, 5, 3, 5, 4, 5);
    }

    private static void twoAtOneDepth() {
        SquareCuts cuts = Check.told("drawn a (1 2 1)(1)(1);");
        lines(cuts, 0, new int[] {0, 0, 4, 4}, new int[] {1, 0, 1, 0}, new int[] {1, 3, 4, 0},
            new int[] {2, 0, 4, -4});
    }

    private static void touchingAtACross() {
        SquareCuts cuts = Check.told("drawn a (1 1)(1 1);");
        lines(cuts, 0, new int[] {0, 0, 2, 2}, new int[] {1, 0, 2, 0}, new int[] {2, 0, 2, -2});
        sides(cuts, 0, false, 0, 0, 1, 1);
        sides(cuts, 0, true, 1, 1, 2, 2);
    }

    private static void oneSquare() {
        SquareCuts cuts = Check.told("drawn a (7);");
        lines(cuts, 0, new int[] {0, 0, 7, 7}, new int[] {7, 0, 7, -7});
        sides(cuts, 0, false, 0);
        sides(cuts, 0, true, 1);
    }

    private static void manyLines() {
        SquareCuts cuts = Check.told("drawn a " + "(1)".repeat(20) + ";");
        cuts.join(0, 0, true);
        CHECK.due("forty below one another", cuts.lines(1), 41);
        CHECK.due("the last one's depth", cuts.line(1, 40, 0), 40);
        CHECK.due("the last one's flow", cuts.line(1, 40, 3), -1);
        CHECK.due("the one asked before", cuts.lines(0), 21);
        CHECK.due("the other again", cuts.side(1, 39, true), 40);
    }

    private static void others() {
        SquareCuts cuts = Check.told("drawn a (2 1)(1);drawn b (2 1);net c 2;");
        int[] wrong = {-1, 4, 12, Integer.MIN_VALUE, Integer.MAX_VALUE};
        for (int number : wrong) {
            CHECK.due("lines of none", cuts.lines(number), -1);
            CHECK.noSuch("line of none", () -> cuts.line(number, 0, 0));
            CHECK.noSuch("no such line", () -> cuts.line(0, number, 0));
            CHECK.noSuch("line, no such what", () -> cuts.line(0, 0, number));
            CHECK.due("side of none", cuts.side(number, 0, false), -1);
            CHECK.due("side of no square", cuts.side(0, number, true), -1);
        }
        CHECK.noSuch("behind the last line", () -> cuts.line(0, 3, 0));
        for (int number = 1; number <= 2; number++) {
            int failing = number;
            CHECK.due("lines of one that fails", cuts.lines(failing), -2);
            CHECK.noSuch("line of one that fails", () -> cuts.line(failing, 0, 0));
            CHECK.due("side of one that fails", cuts.side(failing, 0, true), -1);
        }
    }
}
