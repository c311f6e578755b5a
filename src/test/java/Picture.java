import java.util.NoSuchElementException;
import java.util.function.LongSupplier;

/**
 * All that an object answers, as one text: objects in like states have like pictures. Taking one uses the object up:
 * all acts are undone at its end, both keeps gone back to, and the tape is read.
 */
final class Picture {
    /** Of an object's 512 calls these are left for the picture. */
    private static final int MOST_CALLS = 430;
    /** Of larger rectangles the first squares and lines alone are asked for, and the last one. */
    private static final int MOST_ROWS = 3;

    private final SquareCuts cuts;
    private final StringBuilder answers = new StringBuilder();
    private int calls;

    private Picture(SquareCuts cuts) {
        this.cuts = cuts;
    }

    static String of(SquareCuts cuts) {
        Picture picture = new Picture(cuts);
        picture.counts();
        picture.printed();
        picture.rectangles();
        picture.pastStates();
        picture.tape();
        if (picture.calls > MOST_CALLS) {
            throw new IllegalStateException("a picture of " + picture.calls + " calls");
        }
        return picture.answers.toString();
    }

    private long ask(LongSupplier call) {
        calls++;
        long answer;
        try {
            answer = call.getAsLong();
        } catch (NoSuchElementException e) {
            answers.append("thrown ");
            return -1;
        }
        answers.append(answer).append(' ');
        return answer;
    }

    private void counts() {
        answers.append("counts ");
        for (int what = 0; what <= 5; what++) {
            int asked = what;
            ask(() -> cuts.count(asked));
        }
    }

    private void printed() {
        answers.append("\nprinted ");
        int length = (int) ask(() -> cuts.count(5));
        for (int i = 0; i <= Math.min(length, 12); i++) {
            int asked = i;
            ask(() -> cuts.at(asked));
        }
    }

    private void rectangles() {
        int number = (int) ask(() -> cuts.count(0));
        for (int i = 0; i < number; i++) {
            answers.append("\nrectangle ").append(i).append(": ");
            // Twelve of them would need too many calls: the first two and the last two tell enough of each.
            if (number <= 5 || i < 2 || i >= number - 2) {
                whole(i);
            } else {
                sides(i);
            }
        }
    }

    private void sides(int rect) {
        ask(() -> cuts.rect(rect, 0));
        ask(() -> cuts.rect(rect, 1));
        ask(() -> cuts.rect(rect, 2));
        ask(() -> cuts.rect(rect, 7));
    }

    private void whole(int rect) {
        sides(rect);
        ask(() -> cuts.rect(rect, 3));
        ask(() -> cuts.rect(rect, 5));
        ask(() -> cuts.rect(rect, 6));
        ask(() -> cuts.laid(rect));
        ask(() -> cuts.area(rect));
        ask(() -> cuts.least(rect));
        ask(() -> cuts.groups(rect));
        ask(() -> cuts.trees(rect));
        ask(() -> cuts.layings(rect));
        ask(() -> cuts.current(rect, 0));
        ask(() -> cuts.current(rect, 1));
        ask(() -> cuts.level(rect, 0));
        ask(() -> cuts.level(rect, 1));
        ask(() -> cuts.alike(0, rect));
        int squares = cuts.rect(rect, 0);
        int lines = cuts.lines(rect);
        for (int k = 0; k < squares; k = next(k, squares)) {
            int asked = k;
            ask(() -> cuts.square(rect, asked, 0));
            ask(() -> cuts.square(rect, asked, 1));
            ask(() -> cuts.square(rect, asked, 2));
            ask(() -> cuts.side(rect, asked, true));
        }
        for (int k = 0; k < lines; k = next(k, lines)) {
            int asked = k;
            ask(() -> cuts.line(rect, asked, 0));
            ask(() -> cuts.line(rect, asked, 2));
            ask(() -> cuts.line(rect, asked, 3));
        }
    }

    private static int next(int row, int rows) {
        return row == MOST_ROWS - 1 && rows > MOST_ROWS ? rows - 1 : row + 1;
    }

    private void pastStates() {
        answers.append("\nundone: ");
        for (int i = 0; i < 13 && ask(() -> cuts.undo()) >= 0; i++) {
            lastOne();
        }
        for (int k = 0; k < 2; k++) {
            int asked = k;
            answers.append("\nkept in ").append(k).append(": ");
            ask(() -> cuts.keep(asked, true) ? 1 : 0);
            lastOne();
        }
    }

    private void lastOne() {
        int number = (int) ask(() -> cuts.count(0));
        ask(() -> cuts.rect(number - 1, 0));
        ask(() -> cuts.rect(number - 1, 1));
    }

    private void tape() {
        answers.append("\ntold on the tape: ");
        int bytes = (int) ask(() -> cuts.count(4));
        ask(() -> cuts.text(bytes));
        lastOne();
    }
}
