/** The edges of UNDONE and KEEPS, and of promises 25 to 27: one method for each sentence. */
public final class StateEdgesTest {
    private static final Check CHECK = new Check("StateEdgesTest");
    private static final Refusals REFUSALS = new Refusals(CHECK);
    private static final int NONE = SquareCuts.NONE;

    public static void main(String[] args) {
        nothingToUndo();
        undoneOneByOne();
        asManyAsThereCanBe();
        undoneOnesAreGone();
        undoLeavesAllElse();
        refusedActsAreNotUndone();
        noSuchKeep();
        nothingInIt();
        keepOfNoRectangles();
        keepOfTwelve();
        keepsStandApart();
        keepLaidOverAnother();
        keepLeavesWhatIsThere();
        goneBackToMoreThanOnce();
        backLeavesNothingToUndo();
        backLeavesAllElse();
        countOfOthers();
        countFromEmptyToFull();
        the512thCall();
        CHECK.end();
    }

    private static SquareCuts toldAlone() {
        SquareCuts cuts = Check.told("drawn a (2 1)(1);drawn b (2 1);net c 2;net d 3 0 1 1 2 0 2;");
        cuts.keep(1, false);
        cuts.print(0);
        Check.put(cuts, Refusals.ON_THE_TAPE);
        return cuts;
    }

    private static SquareCuts goneBack() {
        SquareCuts cuts = Refusals.inUse();
        cuts.keep(0, true);
        return cuts;
    }

    private static SquareCuts allUndone() {
        SquareCuts cuts = Refusals.inUse();
        cuts.undo();
        return cuts;
    }

    // ---- undo

    private static void nothingToUndo() {
        REFUSALS.leaves("undo of a new one", SquareCuts::new, SquareCuts::undo, NONE);
        REFUSALS.leaves("undo where all was told", StateEdgesTest::toldAlone, SquareCuts::undo, NONE);
        REFUSALS.leaves("undo behind a keep gone back to", StateEdgesTest::goneBack, SquareCuts::undo, NONE);
        REFUSALS.leaves("undo behind the last one", StateEdgesTest::allUndone, SquareCuts::undo, NONE);
        CHECK.due("undo of the last one", Refusals.inUse().undo(), 0);
    }

    private static void undoneOneByOne() {
        SquareCuts cuts = Check.told("drawn a (2 1)(1);");
        CHECK.due("join", cuts.join(0, 0, true), 1);
        CHECK.due("grow", cuts.grow(0, false), 2);
        CHECK.due("turn", cuts.turn(0, 1), 3);
        CHECK.due("times", cuts.times(0, 7), 4);
        CHECK.due("lessen", cuts.lessen(4), 5);
        int[] wide = {3, 3, 5, 2, 21, 3};
        for (int left = 4; left >= 0; left--) {
            CHECK.due("undo", cuts.undo(), left);
            CHECK.due("as many can be still", cuts.count(3), left);
            CHECK.due("rectangles", cuts.count(0), left + 1);
            CHECK.due("the last one", cuts.rect(left, 1), wide[left]);
            CHECK.due("behind it", cuts.rect(left + 1, 1), NONE);
        }
        CHECK.due("no more", cuts.undo(), NONE);
    }

    /** Of twelve rectangles one at least was told, so that eleven acts are the most. */
    private static void asManyAsThereCanBe() {
        SquareCuts cuts = Check.told("drawn a (1);");
        for (int f = 1; f <= 11; f++) {
            cuts.times(0, f);
        }
        CHECK.due("eleven", cuts.count(3), 11);
        CHECK.due("another one is refused", cuts.times(0, 12), NONE);
        CHECK.due("eleven still", cuts.count(3), 11);
        for (int left = 10; left >= 0; left--) {
            CHECK.due("undo", cuts.undo(), left);
        }
        CHECK.due("no more", cuts.undo(), NONE);
        for (int round = 0; round < 20; round++) {
            CHECK.due("done again", cuts.times(0, 2), 1);
            CHECK.due("undone again", cuts.undo(), 0);
        }
        CHECK.due("the told one stays", cuts.count(0), 1);
    }

    private static void undoneOnesAreGone() {
        SquareCuts cuts = Check.told("drawn a (2 1)(1);");
        cuts.grow(0, true);
        cuts.undo();
        CHECK.due("rect", cuts.rect(1, 7), NONE);
        CHECK.noSuch("square", () -> cuts.square(1, 0, 0));
        CHECK.due("area", cuts.area(1), NONE);
        CHECK.due("print", cuts.print(1), NONE);
        CHECK.due("lines", cuts.lines(1), NONE);
        CHECK.due("side", cuts.side(1, 0, true), NONE);
        CHECK.due("alike", cuts.alike(0, 1), NONE);
        CHECK.due("turn", cuts.turn(1, 0), NONE);
        CHECK.due("its number is free", cuts.times(0, 5), 1);
        CHECK.due("for another one", cuts.rect(1, 1), 15);
    }

    private static void undoLeavesAllElse() {
        SquareCuts cuts = Refusals.inUse();
        CHECK.due("undo", cuts.undo(), 0);
        CHECK.due("bytes on the tape", cuts.count(4), 40);
        CHECK.due("bytes printed", cuts.count(5), 11);
        CHECK.due("the last byte printed", cuts.at(10), ')');
        CHECK.due("what is kept", cuts.keep(0, true), true);
        CHECK.due("with the one that was undone", cuts.count(0), 6);
        CHECK.due("what is kept", cuts.keep(1, true), true);
        CHECK.due("without it", cuts.count(0), 4);
    }

    private static void refusedActsAreNotUndone() {
        SquareCuts cuts = Check.told("drawn a (2 1)(1);drawn b (2 1);");
        cuts.times(0, 3);
        cuts.times(1, 3);
        cuts.turn(0, 8);
        cuts.grow(9, true);
        CHECK.due("one act", cuts.count(3), 1);
        CHECK.due("undone", cuts.undo(), 0);
        CHECK.due("no other one", cuts.undo(), NONE);
        CHECK.due("two told", cuts.count(0), 2);
    }

    // ---- keep

    private static void noSuchKeep() {
        int[] wrong = {-1, 2, 3, Integer.MIN_VALUE, Integer.MAX_VALUE};
        for (int k : wrong) {
            REFUSALS.leaves("keep(" + k + ", false)", Refusals::inUse, c -> c.keep(k, false) ? 1 : 0, 0);
            REFUSALS.leaves("keep(" + k + ", true)", Refusals::inUse, c -> c.keep(k, true) ? 1 : 0, 0);
        }
        for (int k = 0; k <= 1; k++) {
            CHECK.due("keep " + k, Refusals.inUse().keep(k, false), true);
            CHECK.due("back to " + k, Refusals.inUse().keep(k, true), true);
        }
    }

    private static SquareCuts nothingKept() {
        SquareCuts cuts = Check.told("drawn a (2 1)(1);drawn b (2 1);");
        cuts.grow(0, true);
        cuts.print(2);
        Check.put(cuts, Refusals.ON_THE_TAPE);
        return cuts;
    }

    private static void nothingInIt() {
        REFUSALS.leaves("back to 0, empty", StateEdgesTest::nothingKept, c -> c.keep(0, true) ? 1 : 0, 0);
        REFUSALS.leaves("back to 1, empty", StateEdgesTest::nothingKept, c -> c.keep(1, true) ? 1 : 0, 0);
        REFUSALS.leaves("back to 0, 1 is filled", StateEdgesTest::toldAlone, c -> c.keep(0, true) ? 1 : 0, 0);
        REFUSALS.leaves("back to 0 of a new one", SquareCuts::new, c -> c.keep(0, true) ? 1 : 0, 0);
        REFUSALS.leaves("back to 1 of a new one", SquareCuts::new, c -> c.keep(1, true) ? 1 : 0, 0);
        SquareCuts cuts = nothingKept();
        cuts.keep(0, false);
        CHECK.due("something is in 0", cuts.keep(0, true), true);
        CHECK.due("nothing in 1", cuts.keep(1, true), false);
    }

    private static void keepOfNoRectangles() {
        SquareCuts cuts = new SquareCuts();
        CHECK.due("laid where there are none", cuts.keep(1, false), true);
        CHECK.due("gone back to", cuts.keep(1, true), true);
        CHECK.due("none", cuts.count(0), 0);
        CHECK.due("nothing in the other one", cuts.keep(0, true), false);
        Check.tell(cuts, "drawn a (1);");
        CHECK.due("a text forgets it", cuts.keep(1, true), false);
    }

    private static void keepOfTwelve() {
        SquareCuts cuts = Refusals.full();
        CHECK.due("twelve are kept", cuts.keep(1, false), true);
        for (int left = 9; left >= 0; left--) {
            CHECK.due("undo", cuts.undo(), left);
        }
        CHECK.due("two are there", cuts.count(0), 2);
        CHECK.due("back", cuts.keep(1, true), true);
        CHECK.due("twelve are there", cuts.count(0), 12);
        CHECK.due("the last one", Check.printed(cuts, 11), "(2 1 2)(1)");
        CHECK.due("one in the middle", cuts.rect(5, 1), 15);
        CHECK.due("one that FAILS", cuts.rect(1, 1), -2);
        CHECK.due("no room for another one", cuts.turn(0, 0), NONE);
        CHECK.due("none can be undone", cuts.undo(), NONE);
    }

    private static void keepsStandApart() {
        SquareCuts cuts = Check.told("drawn a (1);");
        cuts.keep(0, false);
        cuts.times(0, 2);
        cuts.keep(1, false);
        cuts.times(0, 3);
        CHECK.due("back to 0", cuts.keep(0, true), true);
        CHECK.due("one", cuts.count(0), 1);
        CHECK.due("back to 1", cuts.keep(1, true), true);
        CHECK.due("two", cuts.count(0), 2);
        CHECK.due("WIDE of the second", cuts.rect(1, 1), 2);
        CHECK.due("no third", cuts.rect(2, 1), NONE);
    }

    private static void keepLaidOverAnother() {
        SquareCuts cuts = Check.told("drawn a (1);");
        cuts.times(0, 2);
        cuts.times(0, 3);
        cuts.keep(0, false);
        cuts.undo();
        cuts.undo();
        CHECK.due("laid over it", cuts.keep(0, false), true);
        cuts.times(0, 4);
        CHECK.due("back", cuts.keep(0, true), true);
        CHECK.due("the later one counts", cuts.count(0), 1);
    }

    private static void keepLeavesWhatIsThere() {
        SquareCuts cuts = Refusals.inUse();
        CHECK.due("keep", cuts.keep(1, false), true);
        int[] due = {5, 2, 0, 1, 40, 11};
        for (int what = 0; what < due.length; what++) {
            CHECK.due("count(" + what + ")", cuts.count(what), due[what]);
        }
        CHECK.due("acts can be undone still", cuts.undo(), 0);
        CHECK.due("the keep holds the one undone", cuts.keep(1, true), true);
        CHECK.due("five", cuts.count(0), 5);
    }

    private static void goneBackToMoreThanOnce() {
        SquareCuts cuts = Check.told("drawn a (2 1)(1);");
        cuts.grow(0, true);
        cuts.keep(0, false);
        for (int round = 1; round <= 3; round++) {
            cuts.times(1, round + 1);
            cuts.undo();
            cuts.undo();
            cuts.turn(0, round);
            CHECK.due("back", cuts.keep(0, true), true);
            CHECK.due("two", cuts.count(0), 2);
            CHECK.due("the one kept", Check.printed(cuts, 1), "(2 1)(1)(3)");
        }
    }

    private static void backLeavesNothingToUndo() {
        SquareCuts cuts = Refusals.inUse();
        CHECK.due("one act ahead", cuts.count(3), 1);
        CHECK.due("back to what is there with two made", cuts.keep(0, true), true);
        CHECK.due("no acts", cuts.count(3), 0);
        CHECK.due("undo", cuts.undo(), NONE);
        CHECK.due("both made ones stay", cuts.count(0), 6);
        CHECK.due("an act behind it", cuts.turn(5, 1), 6);
        CHECK.due("can be undone", cuts.undo(), 0);
        CHECK.due("those ahead can't", cuts.undo(), NONE);
        CHECK.due("they stay", cuts.count(0), 6);
    }

    private static void backLeavesAllElse() {
        SquareCuts cuts = Refusals.inUse();
        cuts.keep(1, true);
        CHECK.due("bytes on the tape", cuts.count(4), 40);
        CHECK.due("bytes printed", cuts.count(5), 11);
        CHECK.due("the other keep", cuts.keep(0, true), true);
        CHECK.due("what it holds", cuts.rect(5, 1), 9);
        CHECK.due("the tape", cuts.text(40), 1);
    }

    // ---- count

    private static void countOfOthers() {
        int[] wrong = {-1, 6, 7, Integer.MIN_VALUE, Integer.MAX_VALUE};
        for (int what : wrong) {
            REFUSALS.leaves("count(" + what + ")", Refusals::inUse, c -> c.count(what), NONE);
        }
        int[] due = {5, 2, 0, 1, 40, 11};
        for (int what = 0; what < due.length; what++) {
            CHECK.due("count(" + what + ")", Refusals.inUse().count(what), due[what]);
        }
    }

    private static void countFromEmptyToFull() {
        SquareCuts cuts = Check.told("drawn a (18 15)(7 8)(14 4)(10 1)(9);drawn b (1);drawn c (2 1);");
        CHECK.due("told", cuts.count(0), 3);
        CHECK.due("one FAILS", cuts.count(1), 1);
        CHECK.due("one is PERFECT", cuts.count(2), 1);
        for (int made = 1; made <= 9; made++) {
            cuts.turn(0, made % 8);
            CHECK.due("rectangles", cuts.count(0), 3 + made);
            CHECK.due("PERFECT ones", cuts.count(2), 1 + made);
            CHECK.due("acts", cuts.count(3), made);
        }
        CHECK.due("one FAILS still", cuts.count(1), 1);
        for (int bytes = 20; bytes <= 600; bytes += 20) {
            cuts.feed(0, 0, 0, 0, 0);
            CHECK.due("bytes on the tape", cuts.count(4), bytes);
        }
        CHECK.due("none printed", cuts.count(5), 0);
        cuts.print(0);
        CHECK.due("27 printed", cuts.count(5), 27);
        cuts.print(1);
        CHECK.due("3 printed", cuts.count(5), 3);
        CHECK.due("a fault", cuts.text(600), Check.fault(0, 1));
        CHECK.due("no bytes on the tape", cuts.count(4), 0);
        CHECK.due("all twelve stay", cuts.count(0), 12);
        SquareCuts failing = Check.told("net a 2;net b 2;net c 2;drawn d (2 1);drawn e (2 1);drawn f (2 1);");
        CHECK.due("all FAIL", failing.count(1), 6);
        CHECK.due("none is PERFECT", failing.count(2), 0);
    }

    private static void the512thCall() {
        SquareCuts cuts = new SquareCuts();
        cuts.feed(Check.four("draw", 0), Check.four("n a ", 0), Check.four("(2 1", 0), Check.four(")(1)", 0),
            Check.four(";   ", 0));
        cuts.text(20);
        for (int call = 3; call <= 511; call += 2) {
            CHECK.due("call " + call, cuts.grow(0, true), 1);
            CHECK.due("call " + (call + 1), call == 511 ? cuts.area(1) : cuts.undo(), call == 511 ? 15 : 0);
        }
    }
}
