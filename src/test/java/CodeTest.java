/** Promises 9 to 11: print, at, groups. */
public final class CodeTest {
    private static final Check CHECK = new Check("CodeTest");

    public static void main(String[] args) {
        drawnCodes();
        netCode();
        madeCodes();
        whatStays();
        longestCode();
        CHECK.end();
    }

    private static void drawnCodes() {
        String[] codes = {"(1)", "(9999)", "(1 1)", "(1 1)(1 1)", "(2 1 2)(1)(5)", "(18 15)(7 8)(14 4)(10 1)(9)",
            "(1 1 1)(3)", "(10 10)(1000)"};
        int[] groups = {1, 1, 1, 2, 3, 5, 2, -2};
        for (int i = 0; i < codes.length; i++) {
            SquareCuts cuts = Check.told("drawn a " + codes[i] + ";");
            CHECK.due("print " + codes[i], Check.printed(cuts, 0), groups[i] < 0 ? "-2" : codes[i]);
            CHECK.due("groups of " + codes[i], cuts.groups(0), groups[i]);
        }
        SquareCuts cuts = Check.told("drawn a(\n0002   01)  (1 );");
        CHECK.due("blanks and zeros of the text are not printed", Check.printed(cuts, 0), "(2 1)(1)");
    }

    private static void netCode() {
        SquareCuts cuts = Check.told("net a 6 0 2 0 1 1 3 1 4 2 5 2 3 3 5 3 4 4 5;");
        CHECK.due("print a net", Check.printed(cuts, 0), "(18 15)(7 8)(14 4)(10 1)(9)");
        CHECK.due("its groups", cuts.groups(0), 5);
    }

    private static void madeCodes() {
        SquareCuts cuts = Check.told("drawn a (2 1)(1);drawn b (1 1)(1 1);");
        cuts.turn(0, 1);
        CHECK.due("turned", Check.printed(cuts, 2), "(2)(1 1)");
        cuts.join(0, 1, false);
        CHECK.due("two groups become one", Check.printed(cuts, 3), "(2 1 1 1)(1 1 1)");
        CHECK.due("their number", cuts.groups(3), 2);
        cuts.join(1, 0, true);
        CHECK.due("below", Check.printed(cuts, 4), "(3 3)(3 3)(4 2)(2)");
        CHECK.due("like neighbours at unlike depths", cuts.groups(4), 4);
    }

    private static void whatStays() {
        SquareCuts cuts = Check.told("drawn a (2 1)(1);drawn b (2 1);net c 2;");
        CHECK.due("nothing printed", cuts.count(5), 0);
        CHECK.due("print", cuts.print(0), 8);
        CHECK.due("print of one that fails", cuts.print(1), -2);
        CHECK.due("print of a net that fails", cuts.print(2), -2);
        CHECK.due("print of none", cuts.print(3), -1);
        CHECK.due("print of -1", cuts.print(-1), -1);
        CHECK.due("groups of one that fails", cuts.groups(1), -2);
        CHECK.due("groups of a net that fails", cuts.groups(2), -2);
        CHECK.due("groups of none", cuts.groups(3), -1);
        CHECK.due("groups of -1", cuts.groups(-1), -1);
        CHECK.due("what was printed stays", cuts.count(5), 8);
        CHECK.due("at 0", cuts.at(0), '(');
        CHECK.due("at 7", cuts.at(7), ')');
        CHECK.due("at 2", cuts.at(2), ' ');
        CHECK.due("at 8", cuts.at(8), -1);
        CHECK.due("at -1", cuts.at(-1), -1);
        CHECK.due("at the least int", cuts.at(Integer.MIN_VALUE), -1);
        CHECK.due("at the greatest int", cuts.at(Integer.MAX_VALUE), -1);
        Check.tell(cuts, "drawn d (5);");
        CHECK.due("also behind a new text", cuts.at(7), ')');
        cuts.print(0);
        CHECK.due("a shorter one", cuts.count(5), 3);
        CHECK.due("at 1", cuts.at(1), '5');
        CHECK.due("at 3", cuts.at(3), -1);
    }

    private static void longestCode() {
        SquareCuts cuts = Check.told("drawn a " + "(1)".repeat(20) + ";");
        cuts.join(0, 0, true);
        cuts.times(1, 9999);
        cuts.times(2, 2500);
        String code = "(24997500)".repeat(40);
        CHECK.due("forty groups", Check.printed(cuts, 3), code);
        CHECK.due("forty groups counted", cuts.groups(3), 40);
        cuts = Check.told("drawn a (8000);");
        cuts.times(0, 5000);
        cuts.times(1, 25);
        CHECK.due("ten digits", Check.printed(cuts, 2), "(1000000000)");
    }
}
