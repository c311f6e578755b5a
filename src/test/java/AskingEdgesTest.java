import java.util.function.ToLongFunction;

/** The edges of promises 4 to 19: what each question answers at the last that there is, and behind it. */
public final class AskingEdgesTest {
    private static final Check CHECK = new Check("AskingEdgesTest");
    private static final Refusals REFUSALS = new Refusals(CHECK);
    private static final int NONE = SquareCuts.NONE;
    private static final int FAILS = -2;
    private static final int NO = Integer.MIN_VALUE;
    private static final long THROWN = Refusals.THROWN;

    /** Numbers of which no rectangle, square, line, wire, point or byte is there in the states below. */
    private static final int[] NEVER = {-1, -2, 600, Integer.MIN_VALUE, Integer.MAX_VALUE};

    // The rectangles of Refusals.inUse.
    private static final int DRAWN = 0;
    private static final int FAILING = 1;
    private static final int TREELESS = 2;
    private static final int NET = 3;
    private static final int MADE = 4;
    private static final int BEHIND = 5;

    public static void main(String[] args) {
        rectOfOthers();
        rectOfOneThatFails();
        rectKinds();
        squareOfOthers();
        laidOfOthers();
        areaOfOthers();
        leastOfOthers();
        leastIsTheFirst();
        printOfOthers();
        atOfOthers();
        groupsOfOthers();
        treesOfOthers();
        currentOfOthers();
        levelOfOthers();
        layingsOfOthers();
        linesOfOthers();
        lineOfOthers();
        sideOfOthers();
        alikeOfOthers();
        alikeOnes();
        unlikeOnes();
        CHECK.end();
    }

    private static void leaves(String call, ToLongFunction<SquareCuts> asking, long due) {
        REFUSALS.leaves(call, Refusals::inUse, asking, due);
    }

    private static void rectOfOthers() {
        for (int what = 0; what <= 7; what++) {
            int asked = what;
            for (int rect : NEVER) {
                leaves("rect(" + rect + ", " + what + ")", c -> c.rect(rect, asked), NONE);
            }
            leaves("rect behind the last one", c -> c.rect(BEHIND, asked), NONE);
            CHECK.due("rect of the last one", Refusals.inUse().rect(MADE, what) >= 0, true);
        }
        int[] wrong = {-1, 8, 9, Integer.MIN_VALUE, Integer.MAX_VALUE};
        for (int what : wrong) {
            leaves("rect(0, " + what + ")", c -> c.rect(DRAWN, what), NONE);
            leaves("rect(5, " + what + ")", c -> c.rect(BEHIND, what), NONE);
        }
    }

    private static void rectOfOneThatFails() {
        for (int what = 0; what <= 6; what++) {
            int asked = what;
            leaves("rect(1, " + what + ")", c -> c.rect(FAILING, asked), FAILS);
            leaves("rect(2, " + what + ")", c -> c.rect(TREELESS, asked), FAILS);
        }
        leaves("rect(1, 7)", c -> c.rect(FAILING, 7), 0);
        leaves("rect(2, 7)", c -> c.rect(TREELESS, 7), 1);
        leaves("rect(1, 8)", c -> c.rect(FAILING, 8), NONE);
        leaves("rect(1, -1)", c -> c.rect(FAILING, -1), NONE);
    }

    private static void rectKinds() {
        int[] kinds = {0, 0, 1, 1, 2};
        for (int rect = 0; rect < kinds.length; rect++) {
            CHECK.due("kind of " + rect, Refusals.inUse().rect(rect, 7), kinds[rect]);
        }
    }

    private static void squareOfOthers() {
        for (int number : NEVER) {
            leaves("square(" + number + ", 0, 0)", c -> c.square(number, 0, 0), THROWN);
            leaves("square(0, " + number + ", 0)", c -> c.square(DRAWN, number, 0), THROWN);
            leaves("square(0, 0, " + number + ")", c -> c.square(DRAWN, 0, number), THROWN);
        }
        leaves("a square behind the last rectangle", c -> c.square(BEHIND, 0, 0), THROWN);
        leaves("a square of a drawn one that fails", c -> c.square(FAILING, 0, 0), THROWN);
        leaves("a square of a net that fails", c -> c.square(TREELESS, 0, 0), THROWN);
        int[] squares = {3, 0, 0, 3, 4};
        int[] rects = {DRAWN, NET, MADE};
        for (int rect : rects) {
            int last = squares[rect] - 1;
            leaves("the last square of " + rect, c -> c.square(rect, last, 2), rect == MADE ? 3 : 1);
            leaves("behind the last square of " + rect, c -> c.square(rect, last + 1, 2), THROWN);
        }
        int[] due = {2, 1, 1};
        for (int what = 0; what < 3; what++) {
            CHECK.due("what " + what, Refusals.inUse().square(DRAWN, 2, what), due[what]);
        }
        leaves("what 3 of a square", c -> c.square(DRAWN, 2, 3), THROWN);
    }

    private static void laidOfOthers() {
        for (int rect : NEVER) {
            leaves("laid(" + rect + ")", c -> c.laid(rect), NONE);
        }
        leaves("laid behind the last one", c -> c.laid(BEHIND), NONE);
        leaves("laid of a drawn one", c -> c.laid(DRAWN), 3);
        leaves("laid of one that fails", c -> c.laid(FAILING), 2);
        leaves("laid of a net", c -> c.laid(NET), -2);
        leaves("laid of a net without trees", c -> c.laid(TREELESS), -2);
        leaves("laid of one made", c -> c.laid(MADE), -2);
    }

    /** For calls of one rectangle that answer -2 if it fails, NONE if there is none. */
    private static void failsOrNone(String name, ToLongFunction<SquareCuts> failing, ToLongFunction<SquareCuts> treeless,
            ToLongFunction<SquareCuts> behind) {
        leaves(name + " of a drawn one that fails", failing, FAILS);
        leaves(name + " of a net that fails", treeless, FAILS);
        leaves(name + " behind the last one", behind, NONE);
    }

    private static void areaOfOthers() {
        for (int rect : NEVER) {
            leaves("area(" + rect + ")", c -> c.area(rect), NONE);
        }
        failsOrNone("area", c -> c.area(FAILING), c -> c.area(TREELESS), c -> c.area(BEHIND));
        leaves("area of the last one", c -> c.area(MADE), 15);
        SquareCuts cuts = Check.told("drawn a (1);drawn b (8000);");
        CHECK.due("the least area", cuts.area(0), 1);
        cuts.times(1, 5000);
        cuts.times(2, 25);
        CHECK.due("the greatest area", cuts.area(3), 1_000_000_000_000_000_000L);
    }

    private static void leastOfOthers() {
        for (int rect : NEVER) {
            leaves("least(" + rect + ")", c -> c.least(rect), NONE);
        }
        failsOrNone("least", c -> c.least(FAILING), c -> c.least(TREELESS), c -> c.least(BEHIND));
        leaves("least of the last one", c -> c.least(MADE), 1);
    }

    private static void leastIsTheFirst() {
        String[] codes = {"(1)", "(1 1)", "(2)(1 1)", "(1 1)(2)", "(18 15)(7 8)(14 4)(10 1)(9)", "(3 1 2)(1)(1 1 1)",
            "(5)(3 2)(1 1)"};
        int[] due = {0, 0, 1, 0, 7, 1, 3};
        for (int i = 0; i < codes.length; i++) {
            CHECK.due("least of " + codes[i], Check.told("drawn a " + codes[i] + ";").least(0), due[i]);
        }
    }

    private static void printOfOthers() {
        for (int rect : NEVER) {
            leaves("print(" + rect + ")", c -> c.print(rect), NONE);
        }
        failsOrNone("print", c -> c.print(FAILING), c -> c.print(TREELESS), c -> c.print(BEHIND));
        SquareCuts cuts = Refusals.inUse();
        CHECK.due("print of the last one", Check.printed(cuts, MADE), "(2 1)(1)(3)");
        CHECK.due("one that fails", cuts.print(FAILING), FAILS);
        CHECK.due("the bytes that stay", cuts.count(5), 11);
        CHECK.due("the last of them", cuts.at(10), ')');
        SquareCuts fresh = Check.told("drawn a (2 1);");
        CHECK.due("one that fails, first of all", fresh.print(0), FAILS);
        CHECK.due("nothing printed", fresh.count(5), 0);
        CHECK.due("no byte", fresh.at(0), NONE);
    }

    private static void atOfOthers() {
        for (int i : NEVER) {
            leaves("at(" + i + ")", c -> c.at(i), NONE);
        }
        leaves("the first byte", c -> c.at(0), '(');
        leaves("the last byte", c -> c.at(10), ')');
        leaves("behind it", c -> c.at(11), NONE);
        CHECK.due("nothing was printed", new SquareCuts().at(0), NONE);
        SquareCuts cuts = Refusals.inUse();
        cuts.print(DRAWN);
        CHECK.due("the last byte of a shorter one", cuts.at(7), ')');
        CHECK.due("behind it nothing of the longer one", cuts.at(8), NONE);
    }

    private static void groupsOfOthers() {
        for (int rect : NEVER) {
            leaves("groups(" + rect + ")", c -> c.groups(rect), NONE);
        }
        failsOrNone("groups", c -> c.groups(FAILING), c -> c.groups(TREELESS), c -> c.groups(BEHIND));
        leaves("groups of the last one", c -> c.groups(MADE), 3);
        CHECK.due("one group", Check.told("drawn a (1);").groups(0), 1);
        CHECK.due("24 groups", Check.told("drawn a " + "(1)".repeat(24) + ";").groups(0), 24);
        CHECK.due("24 in a group", Check.told("drawn a (" + "1 ".repeat(24) + ");").groups(0), 1);
    }

    private static void treesOfOthers() {
        for (int rect : NEVER) {
            leaves("trees(" + rect + ")", c -> c.trees(rect), NONE);
        }
        leaves("trees behind the last one", c -> c.trees(BEHIND), NONE);
        leaves("trees of a drawn one", c -> c.trees(DRAWN), -2);
        leaves("trees of a drawn one that fails", c -> c.trees(FAILING), -2);
        leaves("trees of one made", c -> c.trees(MADE), -2);
        leaves("trees of a net without", c -> c.trees(TREELESS), 0);
        leaves("trees of a net", c -> c.trees(NET), 3);
        SquareCuts cuts = Refusals.inUse();
        CHECK.due("one made of a net", cuts.turn(NET, 0), BEHIND);
        CHECK.due("is no net", cuts.trees(BEHIND), -2);
    }

    private static void currentOfOthers() {
        for (int number : NEVER) {
            leaves("current(" + number + ", 0)", c -> c.current(number, 0), NO);
            leaves("current(3, " + number + ")", c -> c.current(NET, number), NO);
        }
        leaves("the last wire", c -> c.current(NET, 2), 2);
        leaves("behind the last wire", c -> c.current(NET, 3), NO);
        leaves("behind the last one", c -> c.current(BEHIND, 0), NO);
        leaves("current of a drawn one", c -> c.current(DRAWN, 0), NO);
        leaves("current of a drawn one that fails", c -> c.current(FAILING, 0), NO);
        leaves("current of one made", c -> c.current(MADE, 0), NO);
        leaves("current without wires", c -> c.current(TREELESS, 0), NO);
        SquareCuts cuts = Check.told("net a 3 0 1;net b 2 " + "0 1 ".repeat(14) + ";");
        CHECK.due("a wire without trees", cuts.current(0, 0), NO);
        CHECK.due("the 14th wire", cuts.current(1, 13), 1);
        CHECK.due("no 15th", cuts.current(1, 14), NO);
    }

    private static void levelOfOthers() {
        for (int number : NEVER) {
            leaves("level(" + number + ", 0)", c -> c.level(number, 0), NO);
            leaves("level(3, " + number + ")", c -> c.level(NET, number), NO);
        }
        leaves("the last point", c -> c.level(NET, 2), 0);
        leaves("behind the last point", c -> c.level(NET, 3), NO);
        leaves("behind the last one", c -> c.level(BEHIND, 0), NO);
        leaves("level of a drawn one", c -> c.level(DRAWN, 0), NO);
        leaves("level of a drawn one that fails", c -> c.level(FAILING, 0), NO);
        leaves("level of one made", c -> c.level(MADE, 0), NO);
        leaves("the first point without trees", c -> c.level(TREELESS, 0), NO);
        leaves("the last point without trees", c -> c.level(TREELESS, 1), NO);
    }

    private static void layingsOfOthers() {
        for (int rect : NEVER) {
            leaves("layings(" + rect + ")", c -> c.layings(rect), NONE);
        }
        leaves("layings behind the last one", c -> c.layings(BEHIND), NONE);
        leaves("layings of a drawn one", c -> c.layings(DRAWN), -2);
        leaves("layings of a drawn one that fails", c -> c.layings(FAILING), -2);
        leaves("layings of one made", c -> c.layings(MADE), -2);
        leaves("layings without trees", c -> c.layings(TREELESS), 0);
        leaves("layings of a net", c -> c.layings(NET), 3);
    }

    private static void linesOfOthers() {
        for (int rect : NEVER) {
            leaves("lines(" + rect + ")", c -> c.lines(rect), NONE);
        }
        failsOrNone("lines", c -> c.lines(FAILING), c -> c.lines(TREELESS), c -> c.lines(BEHIND));
        leaves("lines of the last one", c -> c.lines(MADE), 4);
        SquareCuts cuts = Check.told("drawn a " + "(1)".repeat(20) + ";");
        cuts.join(0, 0, true);
        cuts.turn(1, 1);
        CHECK.due("40 below one another", cuts.lines(1), 41);
        CHECK.due("40 beside one another", cuts.lines(2), 2);
    }

    private static void lineOfOthers() {
        for (int number : NEVER) {
            leaves("line(" + number + ", 0, 0)", c -> c.line(number, 0, 0), THROWN);
            leaves("line(0, " + number + ", 0)", c -> c.line(DRAWN, number, 0), THROWN);
            leaves("line(0, 0, " + number + ")", c -> c.line(DRAWN, 0, number), THROWN);
        }
        leaves("a line behind the last rectangle", c -> c.line(BEHIND, 0, 0), THROWN);
        leaves("a line of a drawn one that fails", c -> c.line(FAILING, 0, 0), THROWN);
        leaves("a line of a net that fails", c -> c.line(TREELESS, 0, 0), THROWN);
        leaves("the last line", c -> c.line(DRAWN, 2, 0), 2);
        leaves("behind the last line", c -> c.line(DRAWN, 3, 0), THROWN);
        leaves("the last line of one made", c -> c.line(MADE, 3, 3), -3);
        leaves("behind the last line of one made", c -> c.line(MADE, 4, 3), THROWN);
        int[] due = {1, 2, 3, 0};
        for (int what = 0; what < 4; what++) {
            CHECK.due("what " + what, Refusals.inUse().line(DRAWN, 1, what), due[what]);
        }
        leaves("what 4 of a line", c -> c.line(DRAWN, 1, 4), THROWN);
    }

    private static void sideOfOthers() {
        boolean[] both = {false, true};
        for (boolean lower : both) {
            for (int number : NEVER) {
                leaves("side(" + number + ", 0, " + lower + ")", c -> c.side(number, 0, lower), NONE);
                leaves("side(0, " + number + ", " + lower + ")", c -> c.side(DRAWN, number, lower), NONE);
            }
            leaves("a side behind the last rectangle", c -> c.side(BEHIND, 0, lower), NONE);
            leaves("a side of a drawn one that fails", c -> c.side(FAILING, 0, lower), NONE);
            leaves("a side of a net that fails", c -> c.side(TREELESS, 0, lower), NONE);
            leaves("the last square's", c -> c.side(DRAWN, 2, lower), lower ? 2 : 1);
            leaves("behind the last square", c -> c.side(DRAWN, 3, lower), NONE);
            leaves("the last square's of one made", c -> c.side(MADE, 3, lower), lower ? 3 : 2);
            leaves("behind that", c -> c.side(MADE, 4, lower), NONE);
        }
    }

    private static void alikeOfOthers() {
        for (int number : NEVER) {
            leaves("alike(" + number + ", 0)", c -> c.alike(number, DRAWN), NONE);
            leaves("alike(0, " + number + ")", c -> c.alike(DRAWN, number), NONE);
            leaves("alike of none and one that fails", c -> c.alike(number, FAILING), NONE);
            leaves("alike of one that fails and none", c -> c.alike(FAILING, number), NONE);
        }
        leaves("the first and behind the last one", c -> c.alike(DRAWN, BEHIND), NONE);
        leaves("behind the last one and the first", c -> c.alike(BEHIND, DRAWN), NONE);
        leaves("the other one fails", c -> c.alike(DRAWN, FAILING), 0);
        leaves("the one fails", c -> c.alike(FAILING, DRAWN), 0);
        leaves("it fails itself", c -> c.alike(FAILING, FAILING), 0);
        leaves("two that fail", c -> c.alike(FAILING, TREELESS), 0);
        leaves("the last one and itself", c -> c.alike(MADE, MADE), 1);
        leaves("a drawn one and a net", c -> c.alike(DRAWN, NET), 1);
        leaves("unlike numbers of squares", c -> c.alike(DRAWN, MADE), 0);
    }

    private static void alikeOnes() {
        // Eight pictures of one that no turn leaves as it is, and one that differs in a single place.
        SquareCuts cuts = Check.told("drawn a (3 2)(1 1);drawn b (9998 4999)(4999);drawn c (2 1)(1);drawn d (5);"
            + "drawn e (9999);drawn f (2 3)(1 1);");
        for (int turn = 0; turn < 8; turn++) {
            CHECK.due("turn " + turn, cuts.turn(0, turn), 6);
            CHECK.due("alike by turn " + turn, cuts.alike(0, 6), 1);
            CHECK.due("alike by turn " + turn + ", mirrored", cuts.alike(6, 5), 1);
            CHECK.due("7 times as large", cuts.times(6, 7), 7);
            CHECK.due("alike by turn " + turn + ", times as large", cuts.alike(0, 7), 1);
            CHECK.due("alike by turn " + turn + ", parts as large", cuts.alike(7, 0), 1);
            CHECK.due("another one", cuts.alike(7, 2), 0);
            cuts.undo();
            cuts.undo();
        }
        CHECK.due("4999 times", cuts.alike(1, 2), 1);
        CHECK.due("the 4999th part", cuts.alike(2, 1), 1);
        CHECK.due("any two squares", cuts.alike(3, 4), 1);
        CHECK.due("others", cuts.alike(0, 1), 0);
        SquareCuts large = Check.told("drawn a (8000);drawn b (1);drawn c (1 1);");
        large.times(0, 5000);
        large.times(3, 25);
        CHECK.due("1 and a thousand million", large.alike(1, 4), 1);
        CHECK.due("one and two squares", large.alike(1, 2), 0);
    }

    /** As many squares each, and of the first two pairs the same sizes and sides too. */
    private static void unlikeOnes() {
        String[] ones = {"(1 2 1)(1)(1)", "(3 2 1)(1)(1 1 1)", "(1 1 1 1)", "(1 1 1)(3)", "(1)", "(2 1)(1)"};
        String[] others = {"(2 1 1)(1 1)", "(3 1 2)(1)(1 1 1)", "(1 1)(1 1)", "(1 1)(1 1)", "(1)", "(1 2)(1)"};
        int[] due = {0, 0, 0, 0, 1, 1};
        for (int i = 0; i < ones.length; i++) {
            SquareCuts cuts = Check.told("drawn a " + ones[i] + ";drawn b " + others[i] + ";");
            CHECK.due(ones[i] + ": SQUARES", cuts.rect(0, 0), cuts.rect(1, 0));
            CHECK.due("alike " + ones[i] + " " + others[i], cuts.alike(0, 1), due[i]);
            CHECK.due("alike " + others[i] + " " + ones[i], cuts.alike(1, 0), due[i]);
        }
    }
}
