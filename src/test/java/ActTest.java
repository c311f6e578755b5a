/** Promises 19 to 24: alike, join, grow, turn, times, lessen. */
public final class ActTest {
    private static final Check CHECK = new Check("ActTest");

    public static void main(String[] args) {
        turning();
        alikeOnes();
        joining();
        growing();
        timesAndLeast();
        limits();
        refusing();
        CHECK.end();
    }

    private static void turning() {
        String[] codes = {"(3 2)(1 1)", "(3)(1 2)(1)", "(1 1 3)(2)", "(2 1)(1)(3)",
            "(2 3)(1 1)", "(1 2)(1)(3)", "(3 1 1)(2)", "(3)(2 1)(1)"};
        SquareCuts cuts = Check.told("drawn a (3 2)(1 1);");
        for (int turn = 0; turn < 8; turn++) {
            CHECK.due("turn " + turn, cuts.turn(0, turn), turn + 1);
            CHECK.due("code of turn " + turn, Check.printed(cuts, turn + 1), codes[turn]);
            CHECK.due("WIDE of turn " + turn, cuts.rect(turn + 1, 1), turn % 2 == 0 ? 5 : 3);
            CHECK.due("HIGH of turn " + turn, cuts.rect(turn + 1, 2), turn % 2 == 0 ? 3 : 5);
            CHECK.due("alike by turn " + turn, cuts.alike(0, turn + 1), 1);
            CHECK.due("alike by turn back " + turn, cuts.alike(turn + 1, 0), 1);
        }
        CHECK.due("turn 8", cuts.turn(0, 8), -1);
        CHECK.due("turn -1", cuts.turn(0, -1), -1);
        CHECK.due("turn of the least int", cuts.turn(0, Integer.MIN_VALUE), -1);
        CHECK.due("none was made", cuts.count(0), 9);
    }

    private static void alikeOnes() {
        SquareCuts cuts = Check.told("drawn a (2 1)(1);drawn b (6)(3 3);drawn c (2)(1 1);drawn d (1 1 1);"
            + "drawn e (2 1);net f 3 0 1 1 2 0 2;");
        CHECK.due("itself", cuts.alike(0, 0), 1);
        CHECK.due("turned, times 3", cuts.alike(0, 1), 1);
        CHECK.due("turned, a third", cuts.alike(1, 0), 1);
        CHECK.due("a third", cuts.alike(1, 2), 1);
        CHECK.due("as many squares, laid another way", cuts.alike(0, 3), 0);
        CHECK.due("the other fails", cuts.alike(0, 4), 0);
        CHECK.due("the one fails", cuts.alike(4, 0), 0);
        CHECK.due("both fail", cuts.alike(4, 4), 0);
        CHECK.due("a net and a drawn one", cuts.alike(5, 1), 1);
        CHECK.due("none such", cuts.alike(0, 6), -1);
        CHECK.due("none such", cuts.alike(-1, 0), -1);
        CHECK.due("none such, and one fails", cuts.alike(4, 6), -1);
        // Two that are 2 and 3 times what is the same: neither divides the other.
        cuts = Check.told("drawn a (4 2)(2);drawn b (3 6)(3);drawn c (3 2)(1 1);drawn d (2 3)(1 1);"
            + "drawn e (1 2 1)(1)(1);drawn f (2 1 1)(1 1);");
        CHECK.due("parts as large", cuts.alike(0, 1), 1);
        CHECK.due("mirrored", cuts.alike(2, 3), 1);
        CHECK.due("like sizes and sides, laid another way", cuts.alike(4, 5), 0);
    }

    private static void joining() {
        SquareCuts cuts = Check.told("drawn a (2 1)(1);drawn b (1 1);net c 2 0 1 0 1 0 1;");
        CHECK.due("to the right", cuts.join(0, 1, false), 3);
        CHECK.due("its code", Check.printed(cuts, 3), "(2 1 2 2)(1)");
        CHECK.due("its WIDE", cuts.rect(3, 1), 7);
        CHECK.due("its HIGH", cuts.rect(3, 2), 2);
        CHECK.due("below", cuts.join(0, 1, true), 4);
        CHECK.due("its code", Check.printed(cuts, 4), "(4 2)(2)(3 3)");
        CHECK.due("its WIDE", cuts.rect(4, 1), 6);
        CHECK.due("its HIGH", cuts.rect(4, 2), 7);
        CHECK.due("the other way", cuts.join(1, 0, true), 5);
        CHECK.due("its code", Check.printed(cuts, 5), "(3 3)(4 2)(2)");
        CHECK.due("with itself", cuts.join(0, 0, false), 6);
        CHECK.due("its code", Check.printed(cuts, 6), "(2 1 2 1)(1)(1)");
        CHECK.due("a net below", cuts.join(0, 2, true), 7);
        CHECK.due("its code", Check.printed(cuts, 7), "(2 1)(1)(1 1 1)");
        CHECK.due("made of made ones", cuts.join(3, 4, true), 8);
        CHECK.due("its WIDE", cuts.rect(8, 1), 42);
        CHECK.due("its HIGH", cuts.rect(8, 2), 12 + 49);
        CHECK.due("its kind", cuts.rect(8, 7), 2);
        CHECK.due("acts", cuts.count(3), 6);
    }

    private static void growing() {
        SquareCuts cuts = Check.told("drawn a (2 1)(1);net b 2 0 1;");
        CHECK.due("at its right side", cuts.grow(0, false), 2);
        CHECK.due("its code", Check.printed(cuts, 2), "(2 1 2)(1)");
        CHECK.due("its WIDE", cuts.rect(2, 1), 5);
        CHECK.due("below", cuts.grow(0, true), 3);
        CHECK.due("its code", Check.printed(cuts, 3), "(2 1)(1)(3)");
        CHECK.due("its HIGH", cuts.rect(3, 2), 5);
        CHECK.due("a net", cuts.grow(1, false), 4);
        CHECK.due("its code", Check.printed(cuts, 4), "(1 1)");
        CHECK.due("its kind", cuts.rect(4, 7), 2);
    }

    private static void timesAndLeast() {
        SquareCuts cuts = Check.told("drawn a (4 2)(2);drawn b (6 4)(2 2);drawn c (3 2)(1 1);");
        CHECK.due("once", cuts.times(0, 1), 3);
        CHECK.due("its code", Check.printed(cuts, 3), "(4 2)(2)");
        CHECK.due("9999 times", cuts.times(0, 9999), 4);
        CHECK.due("its code", Check.printed(cuts, 4), "(39996 19998)(19998)");
        CHECK.due("its WIDE", cuts.rect(4, 1), 59994);
        CHECK.due("0 times", cuts.times(0, 0), -1);
        CHECK.due("-1 times", cuts.times(0, -1), -1);
        CHECK.due("10000 times", cuts.times(0, 10000), -1);
        CHECK.due("as often as can be told", cuts.times(0, Integer.MAX_VALUE), -1);
        CHECK.due("LEAST", cuts.lessen(4), 5);
        CHECK.due("its code", Check.printed(cuts, 5), "(2 1)(1)");
        CHECK.due("its WIDE", cuts.rect(5, 1), 3);
        CHECK.due("its HIGH", cuts.rect(5, 2), 2);
        CHECK.due("LEAST of unlike sizes", cuts.lessen(1), 6);
        CHECK.due("its code", Check.printed(cuts, 6), "(3 2)(1 1)");
        CHECK.due("LEAST already", cuts.lessen(2), 7);
        CHECK.due("its code", Check.printed(cuts, 7), "(3 2)(1 1)");
        CHECK.due("its x", cuts.square(7, 3, 0), 4);
        CHECK.due("its y", cuts.square(7, 3, 1), 2);
    }

    private static void limits() {
        SquareCuts cuts = Check.told("drawn a (1);drawn b " + "(1)".repeat(20) + ";drawn c " + "(1)".repeat(19)
            + ";drawn d (8000);drawn e (9999);");
        CHECK.due("40 squares", cuts.join(1, 1, true), 5);
        CHECK.due("41 by a join", cuts.join(5, 0, true), -1);
        CHECK.due("41 by growing", cuts.grow(5, false), -1);
        CHECK.due("39 squares", cuts.join(1, 2, true), 6);
        CHECK.due("40 by growing", cuts.grow(6, true), 7);
        CHECK.due("one of 40 turned", cuts.turn(5, 3), 8);
        CHECK.due("large", cuts.times(3, 5000), 9);
        CHECK.due("a thousand million", cuts.times(9, 25), 10);
        CHECK.due("its WIDE", cuts.rect(10, 1), 1_000_000_000);
        CHECK.due("more than that", cuts.times(9, 26), -1);
        CHECK.due("more by growing to the right", cuts.grow(10, false), -1);
        CHECK.due("more by growing below", cuts.grow(10, true), -1);
        CHECK.due("more by a join", cuts.join(10, 10, false), -1);
        CHECK.due("far more by a join", cuts.join(10, 4, true), -1);
        CHECK.due("the 12th", cuts.turn(10, 5), 11);
        CHECK.due("a 13th", cuts.turn(0, 0), -1);
        CHECK.due("a 13th", cuts.times(0, 1), -1);
        CHECK.due("a 13th", cuts.lessen(0), -1);
        CHECK.due("a 13th", cuts.grow(0, true), -1);
        CHECK.due("a 13th", cuts.join(0, 0, true), -1);
        CHECK.due("12 there", cuts.count(0), 12);
        CHECK.due("7 acts", cuts.count(3), 7);
        justLargeEnough();
    }

    private static void justLargeEnough() {
        SquareCuts cuts = Check.told("drawn a (8000);");
        cuts.times(0, 6250);
        cuts.times(1, 10);
        CHECK.due("half a thousand million", cuts.rect(2, 1), 500_000_000);
        CHECK.due("grown to the limit", cuts.grow(2, false), 3);
        CHECK.due("its WIDE", cuts.rect(3, 1), 1_000_000_000);
        CHECK.due("grown below to the limit", cuts.grow(2, true), 4);
        CHECK.due("both sides too large", cuts.grow(3, true), -1);
        CHECK.due("joined to the limit", cuts.join(2, 2, true), 5);
        CHECK.due("joined beyond it", cuts.join(5, 0, true), -1);
        CHECK.due("WIDE alone beyond it", cuts.times(3, 2), -1);
        CHECK.due("parts of it", cuts.rect(5, 5), 0);
        CHECK.due("its AREA", cuts.area(5), 500_000_000L * 1_000_000_000L);
    }

    private static void refusing() {
        SquareCuts cuts = Check.told("drawn a (2 1)(1);drawn b (2 1);net c 2;");
        int[] wrong = {-1, 1, 2, 3, Integer.MIN_VALUE, Integer.MAX_VALUE};
        for (int number : wrong) {
            CHECK.due("join " + number, cuts.join(number, 0, true), -1);
            CHECK.due("join with " + number, cuts.join(0, number, false), -1);
            CHECK.due("grow " + number, cuts.grow(number, false), -1);
            CHECK.due("turn " + number, cuts.turn(number, 0), -1);
            CHECK.due("times " + number, cuts.times(number, 1), -1);
            CHECK.due("lessen " + number, cuts.lessen(number), -1);
        }
        CHECK.due("none was made", cuts.count(0), 3);
        CHECK.due("no acts", cuts.count(3), 0);
    }
}
