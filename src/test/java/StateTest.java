/** Promises 25 to 27: undo, keep, count. */
public final class StateTest {
    private static final Check CHECK = new Check("StateTest");

    public static void main(String[] args) {
        undoing();
        keeping();
        keepingNothing();
        keepsAndActs();
        counting();
        CHECK.end();
    }

    private static void undoing() {
        SquareCuts cuts = Check.told("drawn a (2 1)(1);");
        CHECK.due("nothing to undo", cuts.undo(), -1);
        for (int i = 1; i <= 11; i++) {
            CHECK.due("act " + i, cuts.times(0, i), i);
        }
        CHECK.due("acts", cuts.count(3), 11);
        CHECK.due("one refused", cuts.times(0, 1), -1);
        CHECK.due("it is no act", cuts.count(3), 11);
        CHECK.due("undo", cuts.undo(), 10);
        CHECK.due("it is gone", cuts.rect(11, 0), -1);
        CHECK.due("the one ahead is there", cuts.rect(10, 1), 30);
        CHECK.due("room for another one", cuts.grow(0, false), 11);
        CHECK.due("it is another one", cuts.rect(11, 0), 4);
        for (int left = 10; left >= 0; left--) {
            CHECK.due("undo to " + left, cuts.undo(), left);
        }
        CHECK.due("no more", cuts.undo(), -1);
        CHECK.due("the told one stays", cuts.count(0), 1);
        SquareCuts empty = Check.told("");
        CHECK.due("nothing told, nothing undone", empty.undo(), -1);
    }

    private static void keeping() {
        SquareCuts cuts = Check.told("drawn a (2 1)(1);");
        CHECK.due("nothing in 0", cuts.keep(0, true), false);
        CHECK.due("nothing in 1", cuts.keep(1, true), false);
        int[] wrong = {-1, 2, Integer.MIN_VALUE, Integer.MAX_VALUE};
        for (int k : wrong) {
            CHECK.due("none such", cuts.keep(k, false), false);
            CHECK.due("none such", cuts.keep(k, true), false);
        }
        CHECK.due("keep 1", cuts.keep(1, false), true);
        CHECK.due("still nothing in 0", cuts.keep(0, true), false);
        cuts.grow(0, true);
        CHECK.due("keep 0", cuts.keep(0, false), true);
        cuts.times(0, 5);
        CHECK.due("keeping leaves the acts", cuts.count(3), 2);
        CHECK.due("back to 1", cuts.keep(1, true), true);
        CHECK.due("one is there", cuts.count(0), 1);
        CHECK.due("nothing to undo", cuts.undo(), -1);
        CHECK.due("on to 0", cuts.keep(0, true), true);
        CHECK.due("two are there", cuts.count(0), 2);
        CHECK.due("nothing to undo", cuts.count(3), 0);
        CHECK.due("the grown one", Check.printed(cuts, 1), "(2 1)(1)(3)");
        CHECK.due("back to 1 once more", cuts.keep(1, true), true);
        CHECK.due("one is there", cuts.count(0), 1);
    }

    private static void keepingNothing() {
        SquareCuts cuts = new SquareCuts();
        CHECK.due("keep of no rectangles", cuts.keep(0, false), true);
        CHECK.due("gone back to", cuts.keep(0, true), true);
        CHECK.due("none", cuts.count(0), 0);
    }

    private static void keepsAndActs() {
        SquareCuts cuts = Check.told("drawn a (2 1)(1);");
        cuts.times(0, 2);
        cuts.keep(0, false);
        cuts.undo();
        cuts.times(0, 7);
        CHECK.due("another one stands there", cuts.rect(1, 1), 21);
        cuts.keep(1, false);
        cuts.keep(0, true);
        CHECK.due("the kept one", cuts.rect(1, 1), 6);
        cuts.times(0, 9);
        CHECK.due("one act behind it", cuts.undo(), 0);
        CHECK.due("no more", cuts.undo(), -1);
        cuts.keep(0, false);
        cuts.keep(1, true);
        CHECK.due("the other kept one", cuts.rect(1, 1), 21);
        cuts.keep(0, true);
        CHECK.due("kept over the first", cuts.rect(1, 1), 6);
    }

    private static void counting() {
        SquareCuts cuts = Check.told("drawn a (2 1);net b 2;drawn c (18 15)(7 8)(14 4)(10 1)(9);drawn d (1);");
        cuts.turn(2, 1);
        cuts.print(3);
        cuts.feed(0, 0, 0, 0, 0);
        int[] due = {5, 2, 2, 1, 20, 3};
        for (int what = 0; what < due.length; what++) {
            CHECK.due("count(" + what + ")", cuts.count(what), due[what]);
        }
        SquareCuts other = Check.told("drawn c (18 15)(7 8)(14 4)(10 1)(9);");
        CHECK.due("the only one is PERFECT", other.count(2), 1);
        CHECK.due("none FAILS", other.count(1), 0);
        CHECK.due("count(6)", cuts.count(6), -1);
        CHECK.due("count(-1)", cuts.count(-1), -1);
        CHECK.due("count of the least int", cuts.count(Integer.MIN_VALUE), -1);
        CHECK.due("count of the greatest int", cuts.count(Integer.MAX_VALUE), -1);
    }
}
