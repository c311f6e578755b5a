import java.util.function.Supplier;
import java.util.function.ToLongFunction;

/** The edges of part 3 of the terms as acts meet them, and of promises 20 to 24: one method for each sentence. */
public final class ActEdgesTest {
    private static final Check CHECK = new Check("ActEdgesTest");
    private static final Refusals REFUSALS = new Refusals(CHECK);
    private static final int NONE = SquareCuts.NONE;
    private static final int LIMIT = 1_000_000_000;

    /** Numbers of which no rectangle is there; 1 and 2 fail in the state of Refusals.inUse, 5 is behind the last. */
    private static final int[] UNFIT = {-1, 1, 2, 5, 12, Integer.MIN_VALUE, Integer.MAX_VALUE};

    public static void main(String[] args) {
        unfitOnes();
        otherTurns();
        timesFrom1To9999();
        twelveInAll();
        sixToldAndSixMade();
        fortySquares();
        fortySquaresAreActedOn();
        sizesUpToTheLimit();
        growToTheLimit();
        growBeyondTheLimit();
        joinToTheLimit();
        joinBeyondTheLimit();
        meetingSidesToTheLimit();
        meetingSidesBeyondTheLimit();
        timesBeyondTheLimit();
        farBeyondTheLimit();
        asLargeAsTheyMustBeAtLeast();
        grownByTheSide();
        dividedByWhatDividesAll();
        turnedByQuarters();
        orderOfTheCode();
        CHECK.end();
    }

    private static void leaves(String call, ToLongFunction<SquareCuts> asking) {
        REFUSALS.leaves(call, Refusals::inUse, asking, NONE);
    }

    private static void unfitOnes() {
        boolean[] both = {false, true};
        for (int rect : UNFIT) {
            for (boolean below : both) {
                leaves("join(" + rect + ", 0, " + below + ")", c -> c.join(rect, 0, below));
                leaves("join(0, " + rect + ", " + below + ")", c -> c.join(0, rect, below));
                leaves("join(" + rect + ", " + rect + ", " + below + ")", c -> c.join(rect, rect, below));
                leaves("grow(" + rect + ", " + below + ")", c -> c.grow(rect, below));
            }
            for (int turn = 0; turn < 8; turn++) {
                int asked = turn;
                leaves("turn(" + rect + ", " + turn + ")", c -> c.turn(rect, asked));
            }
            leaves("times(" + rect + ", 1)", c -> c.times(rect, 1));
            leaves("times(" + rect + ", 9999)", c -> c.times(rect, 9999));
            leaves("lessen(" + rect + ")", c -> c.lessen(rect));
        }
        int[] fit = {0, 3, 4};
        for (int rect : fit) {
            CHECK.due("join " + rect, Refusals.inUse().join(rect, rect, true), 5);
            CHECK.due("grow " + rect, Refusals.inUse().grow(rect, false), 5);
            CHECK.due("turn " + rect, Refusals.inUse().turn(rect, 0), 5);
            CHECK.due("times " + rect, Refusals.inUse().times(rect, 1), 5);
            CHECK.due("lessen " + rect, Refusals.inUse().lessen(rect), 5);
        }
    }

    private static void otherTurns() {
        int[] wrong = {-1, 8, -8, 9, 12, Integer.MIN_VALUE, Integer.MAX_VALUE};
        for (int turn : wrong) {
            leaves("turn(0, " + turn + ")", c -> c.turn(0, turn));
        }
        for (int turn = 0; turn <= 7; turn++) {
            SquareCuts cuts = Refusals.inUse();
            CHECK.due("turn(0, " + turn + ")", cuts.turn(0, turn), 5);
            CHECK.due("one act more", cuts.count(3), 2);
        }
    }

    private static void timesFrom1To9999() {
        int[] wrong = {0, -1, 10000, -9999, Integer.MIN_VALUE, Integer.MAX_VALUE};
        for (int f : wrong) {
            leaves("times(0, " + f + ")", c -> c.times(0, f));
        }
        int[] right = {1, 2, 9998, 9999};
        for (int f : right) {
            SquareCuts cuts = Refusals.inUse();
            CHECK.due("times(0, " + f + ")", cuts.times(0, f), 5);
            CHECK.due("WIDE of " + f + " times", cuts.rect(5, 1), 3 * f);
            CHECK.due("HIGH of " + f + " times", cuts.rect(5, 2), 2 * f);
            CHECK.due("x of " + f + " times", cuts.square(5, 2, 0), 2 * f);
            CHECK.due("y of " + f + " times", cuts.square(5, 2, 1), f);
            CHECK.due("SIZE of " + f + " times", cuts.square(5, 2, 2), f);
        }
    }

    private static void twelfth(String act, ToLongFunction<SquareCuts> asking) {
        REFUSALS.leaves("a 13th by " + act, Refusals::full, asking, NONE);
        SquareCuts cuts = Refusals.full();
        cuts.undo();
        CHECK.due("11 are there", cuts.count(0), 11);
        CHECK.due("the 12th by " + act, asking.applyAsLong(cuts), 11);
        CHECK.due("12 are there", cuts.count(0), 12);
        CHECK.due("the kind of the 12th", cuts.rect(11, 7), 2);
        CHECK.due("a 13th by " + act, asking.applyAsLong(cuts), NONE);
        CHECK.due("12 as before", cuts.count(0), 12);
        CHECK.due("acts as before", cuts.count(3), 10);
    }

    private static void twelveInAll() {
        twelfth("join to the right", c -> c.join(0, 2, false));
        twelfth("join below", c -> c.join(2, 0, true));
        twelfth("grow to the right", c -> c.grow(0, false));
        twelfth("grow below", c -> c.grow(0, true));
        twelfth("turn", c -> c.turn(0, 5));
        twelfth("times", c -> c.times(0, 2));
        twelfth("lessen", c -> c.lessen(3));
    }

    private static void sixToldAndSixMade() {
        SquareCuts cuts = Check.told("drawn a (1);drawn b (2);drawn c (3);drawn d (4);drawn e (5);drawn f (6);");
        for (int i = 6; i < 12; i++) {
            CHECK.due("the one made " + i, cuts.grow(i - 6, true), i);
        }
        CHECK.due("one too many", cuts.grow(0, true), NONE);
        CHECK.due("acts", cuts.count(3), 6);
        SquareCuts one = Check.told("drawn a (1);");
        for (int i = 1; i < 12; i++) {
            CHECK.due("the one made " + i, one.grow(i - 1, i % 2 == 0), i);
        }
        CHECK.due("one too many", one.grow(0, true), NONE);
        CHECK.due("acts", one.count(3), 11);
    }

    // ---- forty squares

    /** 0 has 20 squares, 1 has 19, 2 has 21, 3 has one; 4 has 40, 5 has 39. */
    private static SquareCuts many() {
        SquareCuts cuts = Check.told("drawn a " + "(1)".repeat(20) + ";drawn b " + "(1)".repeat(19) + ";drawn c "
            + "(1)".repeat(21) + ";drawn d (1);");
        cuts.join(0, 0, true);
        cuts.join(0, 1, true);
        cuts.keep(0, false);
        return cuts;
    }

    private static void fortySquares() {
        SquareCuts cuts = many();
        CHECK.due("20 and 20", cuts.rect(4, 0), 40);
        CHECK.due("20 and 19", cuts.rect(5, 0), 39);
        CHECK.due("19 and 21", cuts.join(1, 2, true), 6);
        CHECK.due("39 and 1 to the right", cuts.join(5, 3, false), 7);
        CHECK.due("1 and 39", cuts.join(3, 5, true), 8);
        CHECK.due("39 grown to the right", cuts.grow(5, false), 9);
        CHECK.due("39 grown below", cuts.grow(5, true), 10);
        for (int rect = 6; rect <= 10; rect++) {
            CHECK.due("SQUARES of " + rect, cuts.rect(rect, 0), 40);
        }
        CHECK.due("the last square of 40", cuts.square(10, 39, 2), 1);
        CHECK.noSuch("no 41st", () -> cuts.square(10, 40, 2));
        Supplier<SquareCuts> state = ActEdgesTest::many;
        REFUSALS.leaves("20 and 21", state, c -> c.join(0, 2, true), NONE);
        REFUSALS.leaves("20 and 21 to the right", state, c -> c.join(2, 0, false), NONE);
        REFUSALS.leaves("40 and 1", state, c -> c.join(4, 3, true), NONE);
        REFUSALS.leaves("1 and 40", state, c -> c.join(3, 4, true), NONE);
        REFUSALS.leaves("40 and 40", state, c -> c.join(4, 4, false), NONE);
        REFUSALS.leaves("40 grown to the right", state, c -> c.grow(4, false), NONE);
        REFUSALS.leaves("40 grown below", state, c -> c.grow(4, true), NONE);
    }

    private static void fortySquaresAreActedOn() {
        SquareCuts cuts = many();
        CHECK.due("40 turned", cuts.turn(4, 1), 6);
        CHECK.due("WIDE of it", cuts.rect(6, 1), 40);
        CHECK.due("40 times as large", cuts.times(4, 9999), 7);
        CHECK.due("HIGH of it", cuts.rect(7, 2), 399960);
        CHECK.due("40 made least", cuts.lessen(7), 8);
        CHECK.due("HIGH of it", cuts.rect(8, 2), 40);
        CHECK.due("PARTS of it", cuts.rect(8, 5), 40 * 39 / 2 - 1);
        CHECK.due("alike", cuts.alike(6, 8), 1);
        CHECK.due("its code", cuts.print(8), 120);
        CHECK.due("its groups", cuts.groups(8), 40);
    }

    // ---- a thousand million

    /** 9469 wide and 21555 high, 23 squares; grown to the right its two sides make 52579 together. */
    private static final String ODD = "(9469)(9469)(2617 2617 2617 1618)(999 619)(380 239)(141 98)(43 43 12)(12)(12)"
        + "(7 5)(2 2 1)(1)";

    /** 52579 * 19019 is a thousand million and one: 4 has sides with that sum, 5 is 4 turned. */
    private static SquareCuts oddSum() {
        SquareCuts cuts = Check.told("drawn a " + ODD + ";drawn b (1);");
        cuts.grow(0, false);
        cuts.times(2, 133);
        cuts.keep(1, false);
        cuts.times(3, 143);
        cuts.turn(4, 1);
        return cuts;
    }

    /** 3 is 52579 wide, 4 is 133 times that, 5 is 4 turned; 1 is 19019 wide, 6 is 3 turned, 7 is 1 turned. */
    private static SquareCuts oddSide() {
        SquareCuts cuts = Check.told("drawn a " + ODD + ";drawn b (" + "2717 ".repeat(7) + ");");
        cuts.grow(0, false);
        cuts.grow(2, false);
        cuts.times(3, 133);
        cuts.turn(4, 1);
        cuts.turn(3, 1);
        cuts.turn(1, 1);
        return cuts;
    }

    /** 4 is a square as large as may be, 3 is half as large. */
    private static SquareCuts largest() {
        SquareCuts cuts = Check.told("drawn a (8000);drawn b (1);");
        cuts.times(0, 6250);
        cuts.times(2, 10);
        cuts.times(3, 2);
        return cuts;
    }

    private static void sizesUpToTheLimit() {
        SquareCuts cuts = largest();
        CHECK.due("WIDE", cuts.rect(4, 1), LIMIT);
        CHECK.due("HIGH", cuts.rect(4, 2), LIMIT);
        CHECK.due("SIZE", cuts.square(4, 0, 2), LIMIT);
        CHECK.due("its lower line", cuts.line(4, 1, 0), LIMIT);
        CHECK.due("what flows out", cuts.line(4, 1, 3), -LIMIT);
        CHECK.due("its code", Check.printed(cuts, 4), "(1000000000)");
        CHECK.due("turned", cuts.turn(4, 3), 5);
        CHECK.due("once as large", cuts.times(4, 1), 6);
        CHECK.due("made least", cuts.lessen(4), 7);
        CHECK.due("WIDE of it", cuts.rect(7, 1), 1);
        REFUSALS.leaves("twice that", ActEdgesTest::largest, c -> c.times(4, 2), NONE);
        REFUSALS.leaves("9999 times that", ActEdgesTest::largest, c -> c.times(4, 9999), NONE);
        REFUSALS.leaves("grown to the right", ActEdgesTest::largest, c -> c.grow(4, false), NONE);
        REFUSALS.leaves("grown below", ActEdgesTest::largest, c -> c.grow(4, true), NONE);
        REFUSALS.leaves("joined to the right", ActEdgesTest::largest, c -> c.join(4, 1, false), NONE);
        REFUSALS.leaves("joined below", ActEdgesTest::largest, c -> c.join(1, 4, true), NONE);
    }

    private static void growToTheLimit() {
        SquareCuts cuts = largest();
        CHECK.due("half of it grown to the right", cuts.grow(3, false), 5);
        CHECK.due("WIDE", cuts.rect(5, 1), LIMIT);
        CHECK.due("HIGH", cuts.rect(5, 2), LIMIT / 2);
        CHECK.due("half of it grown below", cuts.grow(3, true), 6);
        CHECK.due("WIDE", cuts.rect(6, 1), LIMIT / 2);
        CHECK.due("HIGH", cuts.rect(6, 2), LIMIT);
        CHECK.due("the wide one to the right", cuts.grow(5, false), NONE);
        CHECK.due("the high one below", cuts.grow(6, true), NONE);
        CHECK.due("the wide one below", cuts.grow(5, true), NONE);
        CHECK.due("the high one to the right", cuts.grow(6, false), NONE);
        CHECK.due("none was made", cuts.count(0), 7);
    }

    private static void growBeyondTheLimit() {
        SquareCuts cuts = oddSum();
        CHECK.due("WIDE and HIGH together", (long) cuts.rect(4, 1) + cuts.rect(4, 2), LIMIT + 1L);
        for (int rect = 4; rect <= 5; rect++) {
            int asked = rect;
            REFUSALS.leaves("grown by one too much to the right", ActEdgesTest::oddSum, c -> c.grow(asked, false), NONE);
            REFUSALS.leaves("grown by one too much below", ActEdgesTest::oddSum, c -> c.grow(asked, true), NONE);
        }
        CHECK.due("a smaller one grows", cuts.grow(3, false), 6);
        CHECK.due("to be so WIDE", cuts.rect(6, 1), 52579 * 133);
    }

    private static void joinToTheLimit() {
        SquareCuts cuts = largest();
        CHECK.due("two halves to the right", cuts.join(3, 3, false), 5);
        CHECK.due("WIDE", cuts.rect(5, 1), LIMIT);
        CHECK.due("x of the second", cuts.square(5, 1, 0), LIMIT / 2);
        CHECK.due("two halves below", cuts.join(3, 3, true), 6);
        CHECK.due("HIGH", cuts.rect(6, 2), LIMIT);
        CHECK.due("y of the second", cuts.square(6, 1, 1), LIMIT / 2);
        CHECK.due("a half and 1", cuts.join(3, 1, true), 7);
        CHECK.due("HIGH", cuts.rect(7, 2), LIMIT);
        CHECK.due("1 and a half", cuts.join(1, 3, false), 8);
        CHECK.due("WIDE", cuts.rect(8, 1), LIMIT);
    }

    private static void joinBeyondTheLimit() {
        boolean[] both = {false, true};
        for (boolean below : both) {
            REFUSALS.leaves("WIDE one too much", ActEdgesTest::oddSum, c -> c.join(4, 1, below), NONE);
            REFUSALS.leaves("WIDE one too much", ActEdgesTest::oddSum, c -> c.join(1, 4, below), NONE);
            REFUSALS.leaves("HIGH one too much", ActEdgesTest::oddSum, c -> c.join(5, 1, below), NONE);
            REFUSALS.leaves("HIGH one too much", ActEdgesTest::oddSum, c -> c.join(1, 5, below), NONE);
        }
    }

    /** Two of which the sides that meet are 2^9 and 5^9, and so a thousand million behind the join. */
    private static void meetingSidesToTheLimit() {
        SquareCuts cuts = Check.told("drawn a (1 1 1 1 1);drawn b (256 256);");
        cuts.times(0, 625);
        cuts.times(2, 625);
        CHECK.due("WIDE of the one", cuts.rect(3, 1), 1953125);
        CHECK.due("joined below", cuts.join(3, 1, true), 4);
        CHECK.due("WIDE", cuts.rect(4, 1), LIMIT);
        CHECK.due("HIGH", cuts.rect(4, 2), 700_000_000);
        CHECK.due("the first SIZE", cuts.square(4, 0, 2), 200_000_000);
        CHECK.due("the last SIZE", cuts.square(4, 6, 2), 500_000_000);
        cuts.turn(3, 1);
        cuts.turn(1, 3);
        CHECK.due("joined to the right", cuts.join(5, 6, false), 7);
        CHECK.due("WIDE", cuts.rect(7, 1), 700_000_000);
        CHECK.due("HIGH", cuts.rect(7, 2), LIMIT);
    }

    private static void meetingSidesBeyondTheLimit() {
        SquareCuts cuts = oddSide();
        CHECK.due("52579", cuts.rect(3, 1), 52579);
        CHECK.due("19019", cuts.rect(1, 1), 19019);
        REFUSALS.leaves("WIDE alone one too much", ActEdgesTest::oddSide, c -> c.join(3, 1, true), NONE);
        REFUSALS.leaves("WIDE alone one too much", ActEdgesTest::oddSide, c -> c.join(1, 3, true), NONE);
        REFUSALS.leaves("HIGH alone one too much", ActEdgesTest::oddSide, c -> c.join(6, 7, false), NONE);
        REFUSALS.leaves("HIGH alone one too much", ActEdgesTest::oddSide, c -> c.join(7, 6, false), NONE);
    }

    private static void timesBeyondTheLimit() {
        SquareCuts cuts = oddSide();
        CHECK.due("52579 * 133", cuts.rect(4, 1), 6993007);
        CHECK.due("142 times that", cuts.times(4, 142), 8);
        CHECK.due("WIDE", cuts.rect(8, 1), 993006994);
        CHECK.due("142 times the turned one", cuts.times(5, 142), 9);
        CHECK.due("HIGH", cuts.rect(9, 2), 993006994);
        REFUSALS.leaves("WIDE alone one too much", ActEdgesTest::oddSide, c -> c.times(4, 143), NONE);
        REFUSALS.leaves("HIGH alone one too much", ActEdgesTest::oddSide, c -> c.times(5, 143), NONE);
        cuts = Check.told("drawn a (1 1);drawn b (1)(1);");
        for (int i = 0; i < 2; i++) {
            int made = cuts.times(i, 5000);
            made = cuts.times(made, 5000);
            CHECK.due("20 times", cuts.times(made, 20), made + 1);
            CHECK.due("the longer side", cuts.rect(made + 1, 1 + i), LIMIT);
            CHECK.due("the shorter side", cuts.rect(made + 1, 2 - i), LIMIT / 2);
            CHECK.due("21 times", cuts.times(made, 21), NONE);
        }
    }

    /** Products that do not fit in 32 bits; some of them would be small there. */
    private static void farBeyondTheLimit() {
        SquareCuts cuts = Check.told("drawn a (8192);drawn b (8191);drawn c (9999);drawn d (9998 4999)(4999);");
        cuts.times(0, 8192);
        cuts.times(1, 8191);
        cuts.times(2, 9999);
        cuts.times(3, 4999);
        CHECK.due("2^26 times 64 is 2^32", cuts.times(4, 64), NONE);
        CHECK.due("2^26 times 4096 is 2^38", cuts.times(4, 4096), NONE);
        CHECK.due("2^26 times 9999", cuts.times(4, 9999), NONE);
        CHECK.due("2^26 times 14", cuts.times(4, 14), 8);
        for (int one = 4; one <= 7; one++) {
            for (int two = 4; two <= 7; two++) {
                if (one != two) {
                    CHECK.due("join " + one + " and " + two, cuts.join(one, two, true), NONE);
                }
            }
        }
        CHECK.due("none was made", cuts.count(0), 9);
    }

    // ---- what is made

    private static void asLargeAsTheyMustBeAtLeast() {
        String[] ones = {"(1)", "(2)", "(4)", "(6)", "(6)", "(2 1)(1)", "(9999)"};
        String[] others = {"(1)", "(1)", "(6)", "(4)", "(6)", "(2 1)(1)", "(9998)"};
        String[] right = {"(1 1)", "(2 2)", "(12 12)", "(12 12)", "(6 6)", "(2 1 2 1)(1)(1)", "(99970002 99970002)"};
        String[] below = {"(1)(1)", "(2)(2)", "(12)(12)", "(12)(12)", "(6)(6)", "(2 1)(1)(2 1)(1)",
            "(99970002)(99970002)"};
        for (int i = 0; i < ones.length; i++) {
            SquareCuts cuts = Check.told("drawn a " + ones[i] + ";drawn b " + others[i] + ";");
            cuts.join(0, 1, false);
            cuts.join(0, 1, true);
            CHECK.due("to the right", Check.printed(cuts, 2), right[i]);
            CHECK.due("below", Check.printed(cuts, 3), below[i]);
        }
        // Joined to the right it is HIGH that meets, below it is WIDE.
        SquareCuts cuts = Check.told("drawn a (2 1)(1);drawn b (3)(3);");
        cuts.join(0, 1, false);
        cuts.join(0, 1, true);
        CHECK.due("HIGH of 2 and 6", Check.printed(cuts, 2), "(6 3 3)(3 3)");
        CHECK.due("WIDE of 3 and 3", Check.printed(cuts, 3), "(2 1)(1)(3)(3)");
    }

    private static void grownByTheSide() {
        SquareCuts cuts = Check.told("drawn a (1);drawn b (2 1)(1);drawn c (1)(1)(1);");
        int[] wide = {1, 3, 1};
        int[] high = {1, 2, 3};
        for (int i = 0; i < 3; i++) {
            int last = cuts.rect(i, 0);
            int made = cuts.grow(i, true);
            CHECK.due("below: HIGH", cuts.rect(made, 2), wide[i] + high[i]);
            CHECK.due("below: WIDE", cuts.rect(made, 1), wide[i]);
            CHECK.due("below: the last SIZE", cuts.square(made, last, 2), wide[i]);
            CHECK.due("below: its x", cuts.square(made, last, 0), 0);
            CHECK.due("below: its y", cuts.square(made, last, 1), high[i]);
            made = cuts.grow(i, false);
            CHECK.due("to the right: WIDE", cuts.rect(made, 1), wide[i] + high[i]);
            CHECK.due("to the right: HIGH", cuts.rect(made, 2), high[i]);
            int beside = i == 1 ? 2 : 1;
            CHECK.due("to the right: its SIZE", cuts.square(made, beside, 2), high[i]);
            CHECK.due("to the right: its x", cuts.square(made, beside, 0), wide[i]);
            CHECK.due("to the right: its y", cuts.square(made, beside, 1), 0);
        }
    }

    private static void dividedByWhatDividesAll() {
        String[] codes = {"(1)", "(9999)", "(4 2)(2)", "(6 4)(2 2)", "(3 2)(1 1)", "(9 6)(3 3)"};
        String[] least = {"(1)", "(1)", "(2 1)(1)", "(3 2)(1 1)", "(3 2)(1 1)", "(3 2)(1 1)"};
        for (int i = 0; i < codes.length; i++) {
            SquareCuts cuts = Check.told("drawn a " + codes[i] + ";");
            CHECK.due("least of " + codes[i], cuts.lessen(0), 1);
            CHECK.due("code of it", Check.printed(cuts, 1), least[i]);
            CHECK.due("the one ahead stays", Check.printed(cuts, 0), codes[i]);
            CHECK.due("it is an act", cuts.count(3), 1);
            CHECK.due("least once more", cuts.lessen(1), 2);
            CHECK.due("code of it", Check.printed(cuts, 2), least[i]);
        }
    }

    private static void turnedByQuarters() {
        String[] codes = {"(3 2)(1 1)", "(3)(1 2)(1)", "(1 1 3)(2)", "(2 1)(1)(3)",
            "(2 3)(1 1)", "(1 2)(1)(3)", "(3 1 1)(2)", "(3)(2 1)(1)"};
        SquareCuts cuts = Check.told("drawn a (3 2)(1 1);drawn b (1);");
        for (int turn = 0; turn < 8; turn++) {
            cuts.turn(0, turn);
            CHECK.due("turn " + turn, Check.printed(cuts, 2), codes[turn]);
            CHECK.due("WIDE of turn " + turn, cuts.rect(2, 1), turn % 2 == 0 ? 5 : 3);
            cuts.undo();
            cuts.turn(1, turn);
            CHECK.due("one square by turn " + turn, Check.printed(cuts, 2), "(1)");
            cuts.undo();
        }
    }

    private static void orderOfTheCode() {
        // The squares of the second one come between those of the first one.
        SquareCuts cuts = Check.told("drawn a (2 1)(1);drawn b (1)(1);");
        cuts.join(1, 0, false);
        CHECK.due("by depth, then from the left", Check.printed(cuts, 2), "(1 2 1)(1)(1)");
        int[][] due = {{0, 0, 1}, {1, 0, 2}, {3, 0, 1}, {0, 1, 1}, {3, 1, 1}};
        for (int k = 0; k < due.length; k++) {
            for (int what = 0; what < 3; what++) {
                CHECK.due("square " + k + " what " + what, cuts.square(2, k, what), due[k][what]);
            }
        }
        // What its code tells, drawn anew, is the same.
        Check.tell(cuts, "drawn a (1 2 1)(1)(1);");
        for (int k = 0; k < due.length; k++) {
            CHECK.due("drawn square " + k, cuts.square(0, k, 0), due[k][0]);
        }
    }
}
