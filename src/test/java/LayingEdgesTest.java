/** The edges of part 2 of the terms, and of PERFECT, PARTS, CROSSES and LINES: one method for each sentence. */
public final class LayingEdgesTest {
    private static final Check CHECK = new Check("LayingEdgesTest");
    private static final int NO = Integer.MIN_VALUE;

    public static void main(String[] args) {
        wideIsTheFirstGroup();
        notWiderThanTheNotch();
        notNarrowerThanTheNotch();
        theNotchIsTheLeastDepth();
        ofLikeDepthsTheFirst();
        aPieceIsAsLongAsItsDepth();
        atLastOnePiece();
        wholeGroupsAlone();
        withoutTreesItFails();
        likeWiresCountEach();
        theLastPointHasLevelZero();
        dividedByWhatDividesAllCurrents();
        withoutCurrentNoSquare();
        squaresBeginAtTheGreaterLevel();
        asWideAsTheNotchFits();
        theFirstByNumber();
        noneLeftToTry();
        twentyThousandLayings();
        besideAtTheSameDepth();
        perfectHasTwoSquaresAtLeast();
        partsHaveTwoSquaresAndNotAll();
        fourCornersMakeACross();
        linesThatTouch();
        linesByDepthThenFromTheLeft();
        CHECK.end();
    }

    /** A drawn one that stands. */
    private static void stands(String code, int squares, int wide, int high) {
        SquareCuts cuts = Check.told("drawn a " + code + ";");
        CHECK.due(code + ": SQUARES", cuts.rect(0, 0), squares);
        CHECK.due(code + ": WIDE", cuts.rect(0, 1), wide);
        CHECK.due(code + ": HIGH", cuts.rect(0, 2), high);
        CHECK.due(code + ": laid", cuts.laid(0), squares);
        CHECK.due(code + ": printed", Check.printed(cuts, 0), code);
        CHECK.due(code + ": none FAILS", cuts.count(1), 0);
    }

    /** A drawn one that fails behind so many squares. */
    private static void fails(String code, int laid) {
        SquareCuts cuts = Check.told("drawn a " + code + ";");
        CHECK.due(code + ": SQUARES", cuts.rect(0, 0), -2);
        CHECK.due(code + ": WIDE", cuts.rect(0, 1), -2);
        CHECK.due(code + ": laid", cuts.laid(0), laid);
        CHECK.due(code + ": one FAILS", cuts.count(1), 1);
        CHECK.noSuch(code + ": has no squares", () -> cuts.square(0, 0, 2));
    }

    // ---- drawn ones

    private static void wideIsTheFirstGroup() {
        stands("(1)", 1, 1, 1);
        stands("(9999)", 1, 9999, 9999);
        stands("(1 1)", 2, 2, 1);
        stands("(4 4 4)", 3, 12, 4);
        stands("(3)(1 1 1)", 4, 3, 4);
        SquareCuts cuts = Check.told("drawn a (" + "9999 ".repeat(24) + ");");
        CHECK.due("the widest that can be drawn", cuts.rect(0, 1), 24 * 9999);
    }

    private static void notWiderThanTheNotch() {
        stands("(2 1)(1)", 3, 3, 2);
        fails("(2 1)(2)", 2);
        fails("(2 1)(1 1)", 2);
        fails("(2 1)(9999)", 2);
        stands("(5)(5)", 2, 5, 10);
        fails("(5)(6)", 1);
        fails("(5)(5 1)", 1);
        fails("(5)(1 5)", 1);
        fails("(5)(4 2)", 1);
    }

    private static void notNarrowerThanTheNotch() {
        stands("(4 2)(2)", 3, 6, 4);
        fails("(4 2)(1)", 2);
        fails("(4 2)(1)(1)", 2);
        fails("(5)(4)", 1);
        fails("(5)(2 2)", 1);
        stands("(5)(3 2)(1 1)", 5, 5, 8);
    }

    private static void theNotchIsTheLeastDepth() {
        stands("(3 1 2)(1)(1 1 1)", 7, 6, 3);
        fails("(3 1 2)(2)", 3);
        fails("(3 1 2)(3)", 3);
    }

    private static void ofLikeDepthsTheFirst() {
        stands("(1 1 3 1)(2)(1)(1)", 7, 6, 3);
        fails("(1 1 3 1)(1)(2)(1)", 4);
        stands("(1 3 1 1)(1)(2)(1)", 7, 6, 3);
        fails("(1 3 1 1)(2)(1)(1)", 4);
    }

    private static void aPieceIsAsLongAsItsDepth() {
        stands("(1 1 2)(1 1)", 5, 4, 2);
        fails("(1 1 2)(1)(1)", 3);
        // One that comes to the depth of what lies at its left, or right, makes one piece with it.
        stands("(3 2)(1 1)(5)", 5, 5, 8);
        stands("(2 3)(1 1)(5)", 5, 5, 8);
        fails("(3 2)(1 1)(3)", 4);
        fails("(2 3)(1 1)(2)", 4);
        stands("(1 3 1)(1)(1)(1)(1)", 7, 5, 3);
        fails("(1 3 1)(1)(1)(1 1)", 5);
    }

    private static void atLastOnePiece() {
        stands("(2 2)", 2, 4, 2);
        fails("(2 1)", 2);
        fails("(1 2)", 2);
        fails("(4 2)(1 1)", 4);
        stands("(4 2)(1 1)(1 1)", 6, 6, 4);
        fails("(4 2)(1 1)(2)", 5);
        fails("(2 1)(1)(1 2)", 5);
    }

    private static void wholeGroupsAlone() {
        fails("(1 1)(1 2)", 2);
        fails("(1 1)(1 1)(1 1 1)", 4);
        fails("(3 3)(1 1 1 1 1 2)", 2);
        fails("(3 3)(1 1 1 1 1)", 2);
        SquareCuts cuts = Check.told("drawn a " + "(1)".repeat(23) + "(2);");
        CHECK.due("the last group fails", cuts.laid(0), 23);
        CHECK.due("so it has no squares", cuts.rect(0, 0), -2);
    }

    // ---- nets

    private static void withoutTreesItFails() {
        SquareCuts cuts = Check.told("net a 3 0 1;net b 3 0 1 1 2;net c 4 0 3 1 2 2 1;net d 2;");
        long[] trees = {0, 1, 0, 0};
        for (int i = 0; i < 4; i++) {
            CHECK.due("trees of " + i, cuts.trees(i), trees[i]);
            CHECK.due("SQUARES of " + i, cuts.rect(i, 0), trees[i] == 0 ? -2 : 2);
            CHECK.due("layings of " + i, cuts.layings(i), trees[i] == 0 ? 0 : 2);
            CHECK.due("level of " + i, cuts.level(i, 0), trees[i] == 0 ? NO : 2);
            CHECK.due("current of " + i, cuts.current(i, 0), trees[i] == 0 ? NO : 1);
        }
        CHECK.due("three FAIL", cuts.count(1), 3);
        // A net without wires has none of those that stood in its place in the text before.
        SquareCuts again = Check.told("net a 2 0 1;");
        CHECK.due("one wire", again.trees(0), 1);
        Check.tell(again, "net a 2;");
        CHECK.due("no wire", again.trees(0), 0);
        CHECK.due("no current", again.current(0, 0), NO);
        CHECK.due("it FAILS", again.rect(0, 0), -2);
    }

    private static void likeWiresCountEach() {
        SquareCuts cuts = Check.told("net a 2 0 1;net b 2 0 1 0 1;net c 2 0 1 1 0;net d 3 0 1 0 1 1 2 2 1 1 2;");
        CHECK.due("one", cuts.trees(0), 1);
        CHECK.due("two", cuts.trees(1), 2);
        CHECK.due("two, told the other way round", cuts.trees(2), 2);
        CHECK.due("two times three", cuts.trees(3), 6);
        CHECK.due("each is a square", cuts.rect(3, 0), 5);
        CHECK.due("WIDE", cuts.rect(3, 1), 6);
        CHECK.due("HIGH", cuts.rect(3, 2), 5);
        CHECK.due("its code", Check.printed(cuts, 3), "(3 3)(2 2 2)");
    }

    private static void theLastPointHasLevelZero() {
        for (int points = 2; points <= 9; points++) {
            StringBuilder chain = new StringBuilder("net a " + points);
            for (int p = 1; p < points; p++) {
                chain.append(' ').append(p - 1).append(' ').append(p);
            }
            SquareCuts cuts = Check.told(chain + ";");
            for (int p = 0; p < points; p++) {
                CHECK.due("level " + p + " of a chain of " + points, cuts.level(0, p), points - 1 - p);
            }
            CHECK.due("HIGH of a chain of " + points, cuts.rect(0, 2), points - 1);
            CHECK.due("WIDE of a chain of " + points, cuts.rect(0, 1), 1);
        }
    }

    private static void dividedByWhatDividesAllCurrents() {
        // Eight trees, a current of 8, levels of 8 and 4: 4 divides all currents.
        SquareCuts cuts = Check.told("net a 4 0 1 0 2 1 2 1 3 2 3;net b 3 0 1 1 2 0 2;net c 2 0 1 0 1;");
        CHECK.due("trees are not divided", cuts.trees(0), 8);
        CHECK.due("WIDE is", cuts.rect(0, 1), 2);
        CHECK.due("HIGH is", cuts.rect(0, 2), 2);
        CHECK.due("levels are", cuts.level(0, 1), 1);
        CHECK.due("currents are", cuts.current(0, 4), 1);
        CHECK.due("nothing but 1 divides these: trees", cuts.trees(1), 3);
        CHECK.due("nothing but 1 divides these: WIDE", cuts.rect(1, 1), 3);
        CHECK.due("WIDE as large as TREES", cuts.rect(2, 1), 2);
    }

    private static void withoutCurrentNoSquare() {
        SquareCuts cuts = Check.told("net a 4 0 1 0 2 1 2 1 3 2 3;net b 4 0 3 1 0 2 3;net c 3 0 2 1 0 0 1;");
        int[] squares = {4, 1, 1};
        int[] without = {2, 1, 2};
        for (int i = 0; i < 3; i++) {
            CHECK.due("SQUARES of " + i, cuts.rect(i, 0), squares[i]);
            CHECK.due("layings of " + i, cuts.layings(i), squares[i]);
            CHECK.due("no current in " + i, cuts.current(i, without[i]), 0);
            int asked = i;
            CHECK.noSuch("no square more of " + i, () -> cuts.square(asked, squares[asked], 2));
        }
        CHECK.due("its code has none of it", Check.printed(cuts, 0), "(1 1)(1 1)");
        CHECK.due("its code has none of it", Check.printed(cuts, 1), "(1)");
        CHECK.due("the level where nothing flows", cuts.level(1, 1), 1);
        CHECK.due("the level where nothing flows", cuts.level(1, 2), 0);
    }

    private static void squaresBeginAtTheGreaterLevel() {
        SquareCuts cuts = Check.told("net a 3 1 0 2 1 2 0;net b 3 0 1 1 2 0 2;");
        for (int wire = 0; wire < 3; wire++) {
            CHECK.due("the sign of wire " + wire, cuts.current(0, wire), -cuts.current(1, wire));
            for (int what = 0; what < 3; what++) {
                CHECK.due("laid as the other way round", cuts.square(0, wire, what), cuts.square(1, wire, what));
            }
        }
    }

    private static void asWideAsTheNotchFits() {
        // Of 3 the first takes 1; then 2 is as wide as the rest. If 2 comes first, 1 is.
        SquareCuts cuts = Check.told("net a 3 0 1 1 2 0 2;net b 3 0 2 0 1 1 2;net c 2 0 1;");
        CHECK.due("2 fits in 2", Check.printed(cuts, 0), "(1 2)(1)");
        CHECK.due("1 fits in 1", Check.printed(cuts, 1), "(2 1)(1)");
        CHECK.due("nothing was taken off", cuts.layings(0), 3);
        CHECK.due("nothing was taken off", cuts.layings(1), 3);
        CHECK.due("one as wide as all", cuts.layings(2), 1);
        // Three of unlike sizes below the upper side: the third is too wide for what the first two leave.
        cuts = Check.told("net a 4 0 1 1 2 2 3 0 3 0 3;");
        CHECK.due("no wider than the notch", Check.printed(cuts, 0), "(1 3 3)(1)(1)");
    }

    private static void theFirstByNumber() {
        SquareCuts cuts = Check.told("net a 6 0 2 0 1 1 3 1 4 2 5 2 3 3 5 3 4 4 5;"
            + "net b 6 0 1 0 2 1 3 1 4 2 5 2 3 3 5 3 4 4 5;");
        CHECK.due("each right at once", cuts.layings(0), 9);
        CHECK.due("so laid", Check.printed(cuts, 0), "(18 15)(7 8)(14 4)(10 1)(9)");
        CHECK.due("others tried in their place", cuts.layings(1), 22);
        CHECK.due("so laid", Check.printed(cuts, 1), "(15 18)(8 7)(4 14)(1 10)(9)");
    }

    private static void noneLeftToTry() {
        SquareCuts cuts = Check.told("net a 7 5 3 4 1 5 1 5 0 2 0 2 4 2 4 2 6 4 6 1 6 4 5 0 1 6 3 6 1;");
        CHECK.due("layings", cuts.layings(0), 2037);
        for (int what = 0; what < 7; what++) {
            CHECK.due("it FAILS: what " + what, cuts.rect(0, what), -2);
        }
        CHECK.due("a net as ever", cuts.rect(0, 7), 1);
        CHECK.due("TREES are there", cuts.trees(0) > 0, true);
        CHECK.due("the last CURRENT is there", cuts.current(0, 13) != NO, true);
        CHECK.due("no CURRENT more", cuts.current(0, 14), NO);
        CHECK.due("the last LEVEL is there", cuts.level(0, 6), 0);
        CHECK.due("no LEVEL more", cuts.level(0, 7), NO);
    }

    private static void twentyThousandLayings() {
        String[] nets = {"5 1 2 0 3 2 1 2 3 2 0 4 0 3 4 1 4 3 4 0 2 3 0 2 0 3 0 0 3",
            "5 1 2 1 4 0 3 3 4 4 3 0 4 0 1 3 2 0 2 4 0 2 1 0 1 0 4 2 0",
            "6 0 4 2 5 0 5 0 1 1 3 4 3 0 1 0 3 1 2 0 2 1 2 0 2 5 4 0 5"};
        int[] layings = {19999, 20000, 20000};
        int[] squares = {14, 14, -2};
        for (int i = 0; i < 3; i++) {
            SquareCuts cuts = Check.told("net a " + nets[i] + ";");
            CHECK.due("layings of " + nets[i], cuts.layings(0), layings[i]);
            CHECK.due("SQUARES of " + nets[i], cuts.rect(0, 0), squares[i]);
            CHECK.due("TREES of " + nets[i], cuts.trees(0) > 0, true);
            CHECK.due("LEVELS of " + nets[i], cuts.level(0, 0) > 0, true);
        }
    }

    // ---- codes

    private static void besideAtTheSameDepth() {
        String[] codes = {"(1 2 1)(1)(1)", "(1 1 2)(2)(1 1)", "(1 1)(1 1)", "(2)(1 1)", "(1 1 1)"};
        int[] groups = {3, 3, 2, 2, 1};
        for (int i = 0; i < codes.length; i++) {
            SquareCuts cuts = Check.told("drawn a " + codes[i] + ";");
            CHECK.due("groups of " + codes[i], cuts.groups(0), groups[i]);
            CHECK.due("printed " + codes[i], Check.printed(cuts, 0), codes[i]);
        }
        SquareCuts cuts = Check.told("drawn a (1 1 2)(2)(1 1);");
        CHECK.due("the one ahead ends at x", cuts.square(0, 3, 0) + cuts.square(0, 3, 2), 2);
        CHECK.due("where the next one begins", cuts.square(0, 4, 0), 2);
        CHECK.due("but deeper", cuts.square(0, 4, 1) - cuts.square(0, 3, 1), 1);
    }

    // ---- perfect, parts, crosses, lines

    private static void what(String code, int what, int due) {
        SquareCuts cuts = Check.told("drawn a " + code + ";");
        CHECK.due(code + ": what " + what, cuts.rect(0, what), due);
        if (what == 3) {
            CHECK.due(code + ": counted", cuts.count(2), due);
        }
    }

    private static void perfectHasTwoSquaresAtLeast() {
        what("(1)", 3, 0);
        what("(5)", 3, 0);
        what("(1 1)", 3, 0);
        what("(18 15)(7 8)(14 4)(10 1)(9)", 3, 1);
        // One more, as large as another one, or not.
        what("(18 15)(7 8)(14 4)(10 1)(9)(33)", 3, 1);
        what("(18 15)(7 8)(14 4)(10 1)(9)(18 15)(7 8)(14 4)(10 1)(9)", 3, 0);
        what("(2 1)(1)", 3, 0);
        what("(3 2)(1 1)", 3, 0);
    }

    private static void partsHaveTwoSquaresAndNotAll() {
        String[] codes = {"(1)", "(1 1)", "(1)(1)", "(1 1 1)", "(2 1)(1)", "(1 1)(1 1)", "(3 2)(1 1)",
            "(18 15)(7 8)(14 4)(10 1)(9)", "(18 15)(7 8)(14 4)(10 1)(9)(33)"};
        int[] parts = {0, 0, 0, 2, 1, 4, 2, 0, 1};
        for (int i = 0; i < codes.length; i++) {
            what(codes[i], 5, parts[i]);
            what(codes[i], 4, parts[i] == 0 ? 1 : 0);
        }
    }

    private static void fourCornersMakeACross() {
        what("(1)", 6, 0);
        what("(1 1)", 6, 0);
        what("(2)(1 1)", 6, 0);
        what("(1 1)(2)", 6, 0);
        what("(1 1)(1 1)", 6, 1);
        what("(2 2)(1 1 1 1)", 6, 1);
        what("(2 2)(4)", 6, 0);
        what("(1 1 1)(1 1 1)", 6, 2);
        what("(1 1)(1 1)(1 1)", 6, 2);
        what("(1 1 1 1)", 6, 0);
        what("(1)(1)(1)(1)", 6, 0);
    }

    private static void linesThatTouch() {
        SquareCuts cuts = Check.told("drawn a (1 1)(1 1);drawn b (1 2 1)(1)(1);drawn c (3 2)(1 1);drawn d (1);");
        CHECK.due("sides that touch in a cross are one line", cuts.lines(0), 3);
        CHECK.due("its left end", cuts.line(0, 1, 1), 0);
        CHECK.due("its right end", cuts.line(0, 1, 2), 2);
        CHECK.due("sides apart are two", cuts.lines(1), 4);
        CHECK.due("one more of unlike depth", cuts.lines(2), 3);
        CHECK.due("one square has two", cuts.lines(3), 2);
        CHECK.due("what flows in", cuts.line(3, 0, 3), 1);
        CHECK.due("what flows out", cuts.line(3, 1, 3), -1);
    }

    private static void linesByDepthThenFromTheLeft() {
        SquareCuts cuts = Check.told("drawn b (1 2 1)(1)(1);");
        int[][] due = {{0, 0, 4, 4}, {1, 0, 1, 0}, {1, 3, 4, 0}, {2, 0, 4, -4}};
        for (int line = 0; line < due.length; line++) {
            for (int what = 0; what < 4; what++) {
                CHECK.due("line " + line + " what " + what, cuts.line(0, line, what), due[line][what]);
            }
        }
        int[] upper = {0, 0, 0, 1, 2};
        int[] lower = {1, 3, 2, 3, 3};
        for (int k = 0; k < 5; k++) {
            CHECK.due("upper side of " + k, cuts.side(0, k, false), upper[k]);
            CHECK.due("lower side of " + k, cuts.side(0, k, true), lower[k]);
        }
    }
}
