import java.util.NoSuchElementException;
import java.util.function.Supplier;
import java.util.function.ToLongFunction;

/**
 * Refused calls: of two objects in like states one takes the call, and both must answer alike behind it. The states
 * have something in every place that a call could spoil.
 */
final class Refusals {
    static final long THROWN = Long.MAX_VALUE;

    /** What stands on the tape of the states below: two feeds, so that none of it is filled up with zeros. */
    static final String ON_THE_TAPE = "drawn tape (7 7)(14);" + " ".repeat(19);

    private final Check check;

    Refusals(Check check) {
        this.check = check;
    }

    void leaves(String call, Supplier<SquareCuts> state, ToLongFunction<SquareCuts> asking, long due) {
        SquareCuts asked = state.get();
        SquareCuts other = state.get();
        check.due(call, answer(asked, asking), due);
        check.due(call + ": what was there", Picture.of(asked), Picture.of(other));
    }

    private static long answer(SquareCuts cuts, ToLongFunction<SquareCuts> asking) {
        try {
            return asking.applyAsLong(cuts);
        } catch (NoSuchElementException e) {
            return THROWN;
        }
    }

    /** 0 drawn, 1 a drawn one that fails, 2 a net without trees, 3 a net, 4 made; acts, keeps, a print and a tape. */
    static SquareCuts inUse() {
        SquareCuts cuts = inUseWithoutTape();
        Check.put(cuts, ON_THE_TAPE);
        return cuts;
    }

    static SquareCuts inUseWithoutTape() {
        SquareCuts cuts = Check.told("drawn a (2 1)(1);drawn b (2 1);net c 2;net d 3 0 1 1 2 0 2;");
        cuts.keep(1, false);
        cuts.grow(0, true);
        cuts.times(3, 3);
        cuts.keep(0, false);
        cuts.undo();
        cuts.print(4);
        return cuts;
    }

    /** Twelve rectangles, 0 and 11 as in the state above, 1 fails. */
    static SquareCuts full() {
        SquareCuts cuts = Check.told("drawn a (2 1)(1);drawn b (2 1);");
        cuts.keep(1, false);
        for (int f = 2; f <= 10; f++) {
            cuts.times(0, f);
        }
        cuts.keep(0, false);
        cuts.grow(0, false);
        cuts.print(11);
        Check.put(cuts, ON_THE_TAPE);
        return cuts;
    }
}
