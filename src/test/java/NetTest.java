/** Promises 12 to 15: trees, current, level, layings; and how nets are laid. */
public final class NetTest {
    private static final Check CHECK = new Check("NetTest");
    private static final int NO = Integer.MIN_VALUE;

    public static void main(String[] args) {
        perfectNet();
        smallNets();
        withoutTrees();
        takingOff();
        manyLayings();
        others();
        CHECK.end();
    }

    private static void trees(String net, int trees, int wide, int high) {
        SquareCuts cuts = Check.told("net a " + net + ";");
        CHECK.due(net + ": trees", cuts.trees(0), trees);
        CHECK.due(net + ": WIDE", cuts.rect(0, 1), wide);
        CHECK.due(net + ": HIGH", cuts.rect(0, 2), high);
        CHECK.due(net + ": HIGH is the level of point 0", cuts.level(0, 0), high);
    }

    private static void levels(String net, int... due) {
        SquareCuts cuts = Check.told("net a " + net + ";");
        for (int i = 0; i < due.length; i++) {
            CHECK.due(net + ": level " + i, cuts.level(0, i), due[i]);
        }
        CHECK.due(net + ": no such level", cuts.level(0, due.length), NO);
    }

    private static void currents(String net, int... due) {
        SquareCuts cuts = Check.told("net a " + net + ";");
        for (int i = 0; i < due.length; i++) {
            CHECK.due(net + ": current " + i, cuts.current(0, i), due[i]);
        }
        CHECK.due(net + ": no such current", cuts.current(0, due.length), NO);
    }

    private static void perfectNet() {
        String net = "6 0 2 0 1 1 3 1 4 2 5 2 3 3 5 3 4 4 5";
        trees(net, 66, 33, 32);
        levels(net, 32, 17, 14, 10, 9, 0);
        currents(net, 18, 15, 7, 8, 14, 4, 10, 1, 9);
        SquareCuts cuts = Check.told("net a " + net + ";");
        CHECK.due("each was right at once", cuts.layings(0), 9);
        CHECK.due("PERFECT", cuts.rect(0, 3), 1);
        CHECK.due("SIMPLE", cuts.rect(0, 4), 1);
        CHECK.due("SQUARES", cuts.rect(0, 0), 9);
    }

    private static void smallNets() {
        trees("2 0 1", 1, 1, 1);
        trees("2 1 0", 1, 1, 1);
        currents("2 1 0", -1);
        trees("2 0 1 0 1 1 0", 3, 3, 1);
        currents("2 0 1 0 1 1 0", 1, 1, -1);
        trees("3 0 1 1 2", 1, 1, 2);
        levels("3 0 1 1 2", 2, 1, 0);
        trees("3 0 1 1 2 0 2", 3, 3, 2);
        currents("3 0 1 1 2 0 2", 1, 1, 2);
        // A wire that leads nowhere has no current, and its point the level of where it hangs.
        trees("3 0 2 1 2", 1, 1, 1);
        levels("3 0 2 1 2", 1, 0, 0);
        currents("3 0 2 1 2", 1, 0);
        trees("3 0 2 1 0", 1, 1, 1);
        levels("3 0 2 1 0", 1, 1, 0);
        // All is divided by what divides all currents.
        trees("4 0 1 0 2 1 2 1 3 2 3", 8, 2, 2);
        currents("4 0 1 0 2 1 2 1 3 2 3", 1, 1, 0, 1, 1);
        trees("9 0 1 1 2 2 3 3 4 4 5 5 6 6 7 7 8", 1, 1, 8);
        SquareCuts cuts = Check.told("net a 2 " + "0 1 ".repeat(14) + ";net b 3 0 2 1 2;");
        CHECK.due("14 squares beside one another", Check.printed(cuts, 0), "(1" + " 1".repeat(13) + ")");
        CHECK.due("14 trees", cuts.trees(0), 14);
        CHECK.due("14 layings", cuts.layings(0), 14);
        CHECK.due("a wire without a current is no square", cuts.rect(1, 0), 1);
    }

    private static void withoutTrees() {
        SquareCuts cuts = Check.told("net a 2;net b 3 0 1;net c 4 0 3 1 2;net d 3 0 2 0 2;net e 9 0 1 1 0;");
        for (int i = 0; i < 5; i++) {
            CHECK.due("trees of " + i, cuts.trees(i), 0);
            CHECK.due("layings of " + i, cuts.layings(i), 0);
            CHECK.due("current of " + i, cuts.current(i, 0), NO);
            CHECK.due("level of " + i, cuts.level(i, 0), NO);
            CHECK.due("SQUARES of " + i, cuts.rect(i, 0), -2);
            CHECK.due("kind of " + i, cuts.rect(i, 7), 1);
        }
    }

    /** The order of the wires decides which of two mirror pictures is laid, and how often one is taken off. */
    private static void takingOff() {
        SquareCuts cuts = Check.told("net a 6 0 1 0 2 1 3 1 4 2 5 2 3 3 5 3 4 4 5;net b 3 0 2 0 1 1 2;"
            + "net c 3 0 1 1 2 0 2;");
        CHECK.due("mirrored", Check.printed(cuts, 0), "(15 18)(8 7)(4 14)(1 10)(9)");
        CHECK.due("7 is tried ahead of 8, and 14 ahead of 4", cuts.layings(0), 22);
        CHECK.due("trees", cuts.trees(0), 66);
        CHECK.due("the larger one first", Check.printed(cuts, 1), "(2 1)(1)");
        CHECK.due("the smaller one first", Check.printed(cuts, 2), "(1 2)(1)");
        cuts = Check.told("net a 7 5 3 4 1 5 1 5 0 2 0 2 4 2 4 2 6 4 6 1 6 4 5 0 1 6 3 6 1;");
        CHECK.due("none left to try", cuts.layings(0), 2037);
        CHECK.due("so it fails", cuts.rect(0, 0), -2);
        CHECK.due("its trees are there", cuts.trees(0) > 0, true);
        CHECK.due("its levels are there", cuts.level(0, 6), 0);
        CHECK.due("its currents are there", cuts.current(0, 0) != NO, true);
        CHECK.due("its lines are not", cuts.lines(0), -2);
    }

    private static void manyLayings() {
        SquareCuts cuts = Check.told("net a 5 1 2 1 4 0 3 3 4 4 3 0 4 0 1 3 2 0 2 4 0 2 1 0 1 0 4 2 0;"
            + "net b 6 0 4 2 5 0 5 0 1 1 3 4 3 0 1 0 3 1 2 0 2 1 2 0 2 5 4 0 5;"
            + "net c 5 0 3 0 4 0 4 0 4 0 1 0 3 0 4 0 1 0 1 4 3 4 1 0 4 0 1 0 2;"
            + "net d 5 1 2 0 3 2 1 2 3 2 0 4 0 3 4 1 4 3 4 0 2 3 0 2 0 3 0 0 3;");
        CHECK.due("found with the 20,000th", cuts.rect(0, 0), 14);
        CHECK.due("20,000", cuts.layings(0), 20000);
        CHECK.due("the 20,001st would have found it", cuts.rect(1, 0), -2);
        CHECK.due("20,000 and no more", cuts.layings(1), 20000);
        CHECK.due("far more", cuts.rect(2, 0), -2);
        CHECK.due("20,000 too", cuts.layings(2), 20000);
        CHECK.due("found with the 19,999th", cuts.rect(3, 0), 14);
        CHECK.due("19,999", cuts.layings(3), 19999);
    }

    private static void others() {
        SquareCuts cuts = Check.told("drawn a (2 1)(1);net b 2 0 1;");
        cuts.turn(1, 0);
        int[] wrong = {-1, 3, 14, Integer.MIN_VALUE, Integer.MAX_VALUE};
        for (int number : wrong) {
            CHECK.due("trees of none", cuts.trees(number), -1);
            CHECK.due("layings of none", cuts.layings(number), -1);
            CHECK.due("current of none", cuts.current(number, 0), NO);
            CHECK.due("level of none", cuts.level(number, 0), NO);
            CHECK.due("no such wire", cuts.current(1, number), NO);
            CHECK.due("no such point", cuts.level(1, number), NO);
        }
        for (int number = 0; number <= 2; number += 2) {
            CHECK.due("trees of no net", cuts.trees(number), -2);
            CHECK.due("layings of no net", cuts.layings(number), -2);
            CHECK.due("current of no net", cuts.current(number, 0), NO);
            CHECK.due("level of no net", cuts.level(number, 0), NO);
        }
    }
}
