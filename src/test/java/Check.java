import java.util.NoSuchElementException;
import java.util.function.LongSupplier;

/** Counts the answers that are not as due, for one test. */
final class Check {
    private final String test;
    private int asked;
    private int wrong;

    Check(String test) {
        this.test = test;
    }

    void due(String call, long got, long want) {
        asked++;
        if (got != want) {
            wrong++;
            System.out.println(test + ": " + call + " answered " + got + ", due is " + want);
        }
    }

    void due(String call, boolean got, boolean want) {
        due(call, got ? 1 : 0, want ? 1 : 0);
    }

    void due(String call, String got, String want) {
        asked++;
        if (!got.equals(want)) {
            wrong++;
            System.out.println(test + ": " + call + " answered " + got + ", due is " + want);
        }
    }

    void noSuch(String call, LongSupplier asking) {
        asked++;
        try {
            long got = asking.getAsLong();
            wrong++;
            System.out.println(test + ": " + call + " answered " + got + ", due is NoSuchElementException");
        } catch (NoSuchElementException e) {
            return;
        }
    }

    void end() {
        System.out.println(test + ": " + asked + " answers, " + wrong + " not as due");
        if (wrong != 0) {
            System.exit(1);
        }
    }

    /** Feeds a text to an empty tape, filled up with zeros, and has it read. */
    static int tell(SquareCuts cuts, String text) {
        put(cuts, text);
        return cuts.text(text.length());
    }

    static SquareCuts told(String text) {
        SquareCuts cuts = new SquareCuts();
        int answer = tell(cuts, text);
        if (answer < 0) {
            throw new IllegalStateException("the test's own text is at fault: " + text);
        }
        return cuts;
    }

    static void put(SquareCuts cuts, String text) {
        for (int i = 0; i < text.length(); i += 20) {
            cuts.feed(four(text, i), four(text, i + 4), four(text, i + 8), four(text, i + 12), four(text, i + 16));
        }
    }

    static int four(String text, int from) {
        int number = 0;
        for (int i = from; i < from + 4; i++) {
            number = number << 8 | (i < text.length() ? text.charAt(i) & 255 : 0);
        }
        return number;
    }

    static String printed(SquareCuts cuts, int rect) {
        int length = cuts.print(rect);
        if (length < 0) {
            return Integer.toString(length);
        }
        StringBuilder code = new StringBuilder();
        for (int i = 0; i < length; i++) {
            code.append((char) cuts.at(i));
        }
        return code.toString();
    }

    /** What text answers to a fault. */
    static int fault(int place, int kind) {
        return -2 - (8 * place + kind);
    }
}
