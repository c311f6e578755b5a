import java.util.ArrayList;
import java.util.Arrays;
import java.util.HashSet;
import java.util.List;
import java.util.NoSuchElementException;
import java.util.Set;
import java.util.TreeSet;
import java.util.regex.Matcher;
import java.util.regex.Pattern;

/**
 * The document's words once more, as slowly and plainly as they can be written, by other ways than the class
 * takes: trees are counted one by one, levels by counting forests, outlines unit by unit. Random runs are held
 * against it.
 */
final class Model {
    static final class Square {
        final long x;
        final long y;
        final long size;

        Square(long x, long y, long size) {
            this.x = x;
            this.y = y;
            this.size = size;
        }
    }

    static final class Rect {
        int kind;
        boolean fails;
        long wide;
        long high;
        List<Square> squares = new ArrayList<>();
        int laid;
        long trees = -2;
        int layings = -2;
        long[] levels = new long[0];
        long[] currents = new long[0];
        int parts = -1;
    }

    private final StringBuilder tape = new StringBuilder();
    private List<Rect> rects = new ArrayList<>();
    private int acts;
    private final List<List<Rect>> keeps = new ArrayList<>(Arrays.asList(null, null));
    private String printed = "";

    // ---- the tape and the text

    int feed(int... numbers) {
        if (tape.length() > 580) {
            return -1;
        }
        for (int number : numbers) {
            for (int i = 3; i >= 0; i--) {
                tape.append((char) (number >>> 8 * i & 255));
            }
        }
        return tape.length();
    }

    int text(int n) {
        if (n < 0 || n > tape.length()) {
            return -1;
        }
        String text = tape.substring(0, n);
        tape.setLength(0);
        List<List<String>> lines = new ArrayList<>();
        Set<Integer> faults = faultsOf(text, lines);
        if (!faults.isEmpty()) {
            return -2 - new TreeSet<>(faults).first();
        }
        rects = new ArrayList<>();
        for (List<String> line : lines) {
            rects.add(line.get(0).equals("drawn") ? drawn(line) : net(line));
        }
        acts = 0;
        keeps.set(0, null);
        keeps.set(1, null);
        return rects.size();
    }

    /**
     * All faults, as 8 times the place and the kind. Those of the kinds 2 to 4 do not end the reading; the first
     * of kind 1 does, as nothing can be said of what comes behind it.
     */
    private static Set<Integer> faultsOf(String text, List<List<String>> lines) {
        Set<Integer> faults = new HashSet<>();
        Matcher matcher = Pattern.compile("[a-z]+|[0-9]+|[^a-z0-9 \n]").matcher(text);
        Set<String> names = new HashSet<>();
        String state = "line";
        List<String> line = null;
        int numbers = 0;
        int points = 0;
        int firstPoint = 0;
        while (matcher.find()) {
            String token = matcher.group();
            int place = 8 * matcher.start();
            boolean isWord = token.matches("[a-z]{1,6}");
            boolean isNumber = token.matches("[0-9]{1,4}");
            int number = isNumber ? Integer.parseInt(token) : 0;
            String shape = isWord ? "word" : isNumber ? "number" : token;
            String next = nextState(state, shape, token);
            if (next == null) {
                faults.add(place + 1);
                return faults;
            }
            if (state.equals("line")) {
                line = new ArrayList<>();
                lines.add(line);
                numbers = 0;
                if (lines.size() > 6) {
                    faults.add(place + 4);
                }
            } else if (isWord) {
                if (!names.add(token)) {
                    faults.add(place + 2);
                }
            } else if (state.startsWith("group") && isNumber) {
                numbers++;
                if (number == 0) {
                    faults.add(place + 3);
                }
                if (numbers > 24) {
                    faults.add(place + 4);
                }
            } else if (state.equals("points")) {
                points = number;
                if (number < 2 || number > 9) {
                    faults.add(place + 3);
                }
            } else if (state.equals("first") && isNumber) {
                numbers++;
                firstPoint = number;
                if (number >= points) {
                    faults.add(place + 3);
                }
                if (numbers > 14) {
                    faults.add(place + 4);
                }
            } else if (state.equals("second")) {
                if (number >= points || number == firstPoint) {
                    faults.add(place + 3);
                }
            }
            line.add(token);
            state = next;
        }
        if (!state.equals("line")) {
            faults.add(8 * text.length() + 1);
        }
        return faults;
    }

    private static String nextState(String state, String shape, String token) {
        boolean isName = shape.equals("word") && !token.equals("drawn") && !token.equals("net");
        switch (state) {
            case "line":
                return token.equals("drawn") ? "dname" : token.equals("net") ? "nname" : null;
            case "dname":
                return isName ? "open" : null;
            case "nname":
                return isName ? "points" : null;
            case "open":
                return shape.equals("(") ? "group0" : null;
            case "group0":
                return shape.equals("number") ? "group" : null;
            case "group":
                return shape.equals("number") ? "group" : shape.equals(")") ? "more" : null;
            case "more":
                return shape.equals("(") ? "group0" : shape.equals(";") ? "line" : null;
            case "points":
                return shape.equals("number") ? "first" : null;
            case "first":
                return shape.equals("number") ? "second" : shape.equals(";") ? "line" : null;
            default:
                return shape.equals("number") ? "first" : null;
        }
    }

    // ---- laying

    /** Left end, width and depth of the notch of an outline told unit by unit. */
    private static int[] notch(int[] outline) {
        int least = Integer.MAX_VALUE;
        for (int depth : outline) {
            least = Math.min(least, depth);
        }
        int left = 0;
        while (outline[left] != least) {
            left++;
        }
        int end = left;
        while (end < outline.length && outline[end] == least) {
            end++;
        }
        return new int[] {left, end - left, least};
    }

    private static Rect drawn(List<String> line) {
        List<List<Integer>> groups = new ArrayList<>();
        for (String token : line.subList(2, line.size())) {
            if (token.equals("(")) {
                groups.add(new ArrayList<>());
            } else if (Character.isDigit(token.charAt(0))) {
                groups.get(groups.size() - 1).add(Integer.parseInt(token));
            }
        }
        Rect rect = new Rect();
        int[] outline = new int[groups.get(0).stream().mapToInt(i -> i).sum()];
        for (List<Integer> group : groups) {
            if (group.stream().mapToInt(i -> i).sum() != notch(outline)[1]) {
                rect.fails = true;
                break;
            }
            for (int size : group) {
                int[] notch = notch(outline);
                rect.squares.add(new Square(notch[0], notch[2], size));
                Arrays.fill(outline, notch[0], notch[0] + size, notch[2] + size);
            }
        }
        rect.laid = rect.squares.size();
        rect.fails |= notch(outline)[1] != outline.length;
        rect.wide = outline.length;
        rect.high = outline[0];
        if (rect.fails) {
            rect.squares.clear();
        }
        return rect;
    }

    private static Rect net(List<String> line) {
        int points = Integer.parseInt(line.get(2));
        int wires = (line.size() - 4) / 2;
        int[] from = new int[wires];
        int[] to = new int[wires];
        for (int i = 0; i < wires; i++) {
            from[i] = Integer.parseInt(line.get(3 + 2 * i));
            to[i] = Integer.parseInt(line.get(4 + 2 * i));
        }
        Rect rect = new Rect();
        rect.kind = 1;
        rect.trees = 0;
        rect.layings = 0;
        rect.levels = new long[points];
        rect.currents = new long[wires];
        countForests(rect, from, to);
        if (rect.trees == 0) {
            rect.fails = true;
            return rect;
        }
        long divisor = 0;
        for (int i = 0; i < wires; i++) {
            rect.currents[i] = rect.levels[from[i]] - rect.levels[to[i]];
            divisor = gcd(divisor, Math.abs(rect.currents[i]));
        }
        for (int i = 0; i < wires; i++) {
            rect.currents[i] /= divisor;
        }
        for (int i = 0; i < points; i++) {
            rect.levels[i] /= divisor;
        }
        rect.wide = rect.trees / divisor;
        rect.high = rect.levels[0];
        boolean[] used = new boolean[wires];
        int squares = 0;
        for (int i = 0; i < wires; i++) {
            used[i] = rect.currents[i] == 0;
            squares += used[i] ? 0 : 1;
        }
        rect.fails = !layRest(rect, from, to, used, squares, new int[(int) rect.wide]);
        if (rect.fails) {
            rect.squares.clear();
        }
        return rect;
    }

    /**
     * Trees are all sets of points - 1 wires without a ring. The level of a point, for a current as large as
     * TREES, is the number of forests of two trees where it is with point 0, and the last point is not.
     */
    private static void countForests(Rect rect, int[] from, int[] to) {
        int points = rect.levels.length;
        for (int set = 0; set < 1 << from.length; set++) {
            int size = Integer.bitCount(set);
            if (size != points - 1 && size != points - 2) {
                continue;
            }
            int[] tree = new int[points];
            for (int i = 0; i < points; i++) {
                tree[i] = i;
            }
            boolean ring = false;
            for (int i = 0; i < from.length; i++) {
                if ((set >> i & 1) == 1) {
                    int a = tree[from[i]];
                    int b = tree[to[i]];
                    ring |= a == b;
                    for (int p = 0; p < points; p++) {
                        tree[p] = tree[p] == a ? b : tree[p];
                    }
                }
            }
            if (ring) {
                continue;
            }
            if (size == points - 1) {
                rect.trees++;
            } else if (tree[0] != tree[points - 1]) {
                for (int p = 0; p < points; p++) {
                    rect.levels[p] += tree[p] == tree[0] ? 1 : 0;
                }
            }
        }
    }

    private static boolean layRest(Rect rect, int[] from, int[] to, boolean[] used, int left, int[] outline) {
        if (left == 0) {
            return true;
        }
        int[] notch = notch(outline);
        for (int i = 0; i < used.length; i++) {
            int size = (int) Math.abs(rect.currents[i]);
            long begins = Math.max(rect.levels[from[i]], rect.levels[to[i]]);
            if (used[i] || size > notch[1] || begins != rect.high - notch[2]) {
                continue;
            }
            if (rect.layings == 20000) {
                return false;
            }
            rect.layings++;
            used[i] = true;
            rect.squares.add(new Square(notch[0], notch[2], size));
            int[] changed = outline.clone();
            Arrays.fill(changed, notch[0], notch[0] + size, notch[2] + size);
            if (layRest(rect, from, to, used, left - 1, changed)) {
                return true;
            }
            used[i] = false;
            rect.squares.remove(rect.squares.size() - 1);
        }
        return false;
    }

    // ---- what is asked of rectangles

    private Rect find(int number) {
        return number < 0 || number >= rects.size() ? null : rects.get(number);
    }

    int rect(int number, int what) {
        Rect rect = find(number);
        if (rect == null || what < 0 || what > 7) {
            return -1;
        }
        if (what == 7) {
            return rect.kind;
        }
        if (rect.fails) {
            return -2;
        }
        long[] answers = {rect.squares.size(), rect.wide, rect.high, isPerfect(rect) ? 1 : 0,
            parts(rect) == 0 ? 1 : 0, parts(rect), crosses(rect)};
        return (int) answers[what];
    }

    private static boolean isPerfect(Rect rect) {
        Set<Long> sizes = new HashSet<>();
        for (Square square : rect.squares) {
            sizes.add(square.size);
        }
        return sizes.size() == rect.squares.size() && sizes.size() > 1;
    }

    private static int parts(Rect rect) {
        if (rect.parts >= 0) {
            return rect.parts;
        }
        TreeSet<Long> xs = new TreeSet<>();
        TreeSet<Long> ys = new TreeSet<>();
        for (Square square : rect.squares) {
            xs.add(square.x);
            xs.add(square.x + square.size);
            ys.add(square.y);
            ys.add(square.y + square.size);
        }
        int found = 0;
        for (long x : xs) {
            for (long endX : xs.tailSet(x, false)) {
                for (long y : ys) {
                    for (long endY : ys.tailSet(y, false)) {
                        found += isPart(rect, x, endX, y, endY) ? 1 : 0;
                    }
                }
            }
        }
        rect.parts = found;
        return found;
    }

    private static boolean isPart(Rect rect, long x, long endX, long y, long endY) {
        long area = 0;
        int inside = 0;
        for (Square s : rect.squares) {
            if (s.x >= x && s.x + s.size <= endX && s.y >= y && s.y + s.size <= endY) {
                area += s.size * s.size;
                inside++;
            }
        }
        return area == (endX - x) * (endY - y) && inside >= 2 && inside < rect.squares.size();
    }

    private static int crosses(Rect rect) {
        List<String> corners = new ArrayList<>();
        for (Square s : rect.squares) {
            corners.add(s.x + "," + s.y);
            corners.add((s.x + s.size) + "," + s.y);
            corners.add(s.x + "," + (s.y + s.size));
            corners.add((s.x + s.size) + "," + (s.y + s.size));
        }
        int found = 0;
        for (String corner : new HashSet<>(corners)) {
            found += corners.stream().filter(corner::equals).count() == 4 ? 1 : 0;
        }
        return found;
    }

    int square(int number, int k, int what) {
        Rect rect = find(number);
        if (rect == null || k < 0 || k >= rect.squares.size() || what < 0 || what > 2) {
            throw new NoSuchElementException();
        }
        Square square = rect.squares.get(k);
        return (int) (what == 0 ? square.x : what == 1 ? square.y : square.size);
    }

    int laid(int number) {
        Rect rect = find(number);
        return rect == null ? -1 : rect.kind != 0 ? -2 : rect.laid;
    }

    long area(int number) {
        Rect rect = find(number);
        return rect == null ? -1 : rect.fails ? -2 : rect.wide * rect.high;
    }

    int least(int number) {
        Rect rect = find(number);
        if (rect == null || rect.fails) {
            return rect == null ? -1 : -2;
        }
        long least = rect.squares.stream().mapToLong(s -> s.size).min().getAsLong();
        int k = 0;
        while (rect.squares.get(k).size != least) {
            k++;
        }
        return k;
    }

    static String code(Rect rect) {
        StringBuilder code = new StringBuilder();
        Square ahead = null;
        for (Square s : rect.squares) {
            boolean beside = ahead != null && ahead.y == s.y && ahead.x + ahead.size == s.x;
            code.append(ahead == null ? "(" : beside ? " " : ")(").append(s.size);
            ahead = s;
        }
        return code.append(")").toString();
    }

    int print(int number) {
        Rect rect = find(number);
        if (rect == null || rect.fails) {
            return rect == null ? -1 : -2;
        }
        printed = code(rect);
        return printed.length();
    }

    int at(int i) {
        return i < 0 || i >= printed.length() ? -1 : printed.charAt(i);
    }

    int groups(int number) {
        Rect rect = find(number);
        if (rect == null || rect.fails) {
            return rect == null ? -1 : -2;
        }
        return (int) code(rect).chars().filter(c -> c == '(').count();
    }

    long trees(int number) {
        Rect rect = find(number);
        return rect == null ? -1 : rect.trees;
    }

    int layings(int number) {
        Rect rect = find(number);
        return rect == null ? -1 : rect.layings;
    }

    int current(int number, int wire) {
        Rect rect = find(number);
        boolean none = rect == null || rect.trees <= 0 || wire < 0 || wire >= rect.currents.length;
        return none ? Integer.MIN_VALUE : (int) rect.currents[wire];
    }

    int level(int number, int point) {
        Rect rect = find(number);
        boolean none = rect == null || rect.trees <= 0 || point < 0 || point >= rect.levels.length;
        return none ? Integer.MIN_VALUE : (int) rect.levels[point];
    }

    // ---- lines

    /** Each line as depth, left end, right end, flow: sides are joined two by two till none touch. */
    private static List<long[]> linesOf(Rect rect) {
        List<long[]> lines = new ArrayList<>();
        for (Square s : rect.squares) {
            lines.add(new long[] {s.y, s.x, s.x + s.size, s.size});
            lines.add(new long[] {s.y + s.size, s.x, s.x + s.size, -s.size});
        }
        boolean changed = true;
        while (changed) {
            changed = false;
            for (int i = 0; i < lines.size(); i++) {
                for (int j = lines.size() - 1; j > i; j--) {
                    long[] a = lines.get(i);
                    long[] b = lines.get(j);
                    if (a[0] == b[0] && a[1] <= b[2] && b[1] <= a[2]) {
                        lines.set(i, new long[] {a[0], Math.min(a[1], b[1]), Math.max(a[2], b[2]), a[3] + b[3]});
                        lines.remove(j);
                        changed = true;
                    }
                }
            }
        }
        lines.sort((a, b) -> a[0] != b[0] ? Long.compare(a[0], b[0]) : Long.compare(a[1], b[1]));
        return lines;
    }

    int lines(int number) {
        Rect rect = find(number);
        return rect == null ? -1 : rect.fails ? -2 : linesOf(rect).size();
    }

    int line(int number, int line, int what) {
        Rect rect = find(number);
        if (rect == null || rect.fails || line < 0 || what < 0 || what > 3 || line >= linesOf(rect).size()) {
            throw new NoSuchElementException();
        }
        return (int) linesOf(rect).get(line)[what];
    }

    int side(int number, int k, boolean lower) {
        Rect rect = find(number);
        if (rect == null || k < 0 || k >= rect.squares.size()) {
            return -1;
        }
        Square s = rect.squares.get(k);
        List<long[]> lines = linesOf(rect);
        for (int i = 0; i < lines.size(); i++) {
            long[] line = lines.get(i);
            if (line[0] == (lower ? s.y + s.size : s.y) && line[1] <= s.x && s.x + s.size <= line[2]) {
                return i;
            }
        }
        throw new IllegalStateException("a side on no line");
    }

    // ---- turns, alike, acts

    private static Rect plain(long wide, long high) {
        Rect rect = new Rect();
        rect.kind = 2;
        rect.wide = wide;
        rect.high = high;
        return rect;
    }

    private static Rect mirrored(Rect rect) {
        Rect made = plain(rect.wide, rect.high);
        for (Square s : rect.squares) {
            made.squares.add(new Square(rect.wide - s.x - s.size, s.y, s.size));
        }
        return made;
    }

    private static Rect quarter(Rect rect) {
        Rect made = plain(rect.high, rect.wide);
        for (Square s : rect.squares) {
            made.squares.add(new Square(rect.high - s.y - s.size, s.x, s.size));
        }
        return made;
    }

    private static Rect turned(Rect rect, int turn) {
        Rect made = turn >= 4 ? mirrored(rect) : rect;
        for (int i = 0; i < turn % 4; i++) {
            made = quarter(made);
        }
        return made;
    }

    private static Rect scaled(Rect rect, long factor) {
        Rect made = plain(rect.wide * factor, rect.high * factor);
        for (Square s : rect.squares) {
            made.squares.add(new Square(s.x * factor, s.y * factor, s.size * factor));
        }
        return made;
    }

    int alike(int number, int other) {
        Rect one = find(number);
        Rect two = find(other);
        if (one == null || two == null) {
            return -1;
        }
        if (one.fails || two.fails || one.squares.size() != two.squares.size()) {
            return 0;
        }
        for (int turn = 0; turn < 8; turn++) {
            Rect made = turned(one, turn);
            if (liesAlike(made, two)) {
                return 1;
            }
        }
        return 0;
    }

    private static boolean liesAlike(Rect one, Rect two) {
        if (one.high * two.wide != two.high * one.wide) {
            return false;
        }
        for (Square s : one.squares) {
            boolean found = false;
            for (Square t : two.squares) {
                found |= s.x * two.wide == t.x * one.wide && s.y * two.wide == t.y * one.wide
                    && s.size * two.wide == t.size * one.wide;
            }
            if (!found) {
                return false;
            }
        }
        return true;
    }

    private Rect usable(int number) {
        Rect rect = find(number);
        return rect == null || rect.fails || rects.size() == 12 ? null : rect;
    }

    /** Puts an act's rectangle, its squares in the order in which they are laid, notch by notch. */
    private int put(Rect rect) {
        if (rect.wide > 1_000_000_000 || rect.high > 1_000_000_000 || rect.squares.size() > 40) {
            return -1;
        }
        Rect made = plain(rect.wide, rect.high);
        List<Long> xs = new ArrayList<>(new TreeSet<>(rect.squares.stream().map(s -> s.x).toList()));
        long[] outline = new long[xs.size()];
        while (made.squares.size() < rect.squares.size()) {
            long least = Arrays.stream(outline).min().getAsLong();
            int column = 0;
            while (outline[column] != least) {
                column++;
            }
            long x = xs.get(column);
            Square next = rect.squares.stream().filter(s -> s.x == x && s.y == least).findFirst().orElseThrow();
            for (int i = column; i < outline.length && xs.get(i) < x + next.size; i++) {
                outline[i] = least + next.size;
            }
            made.squares.add(next);
        }
        rects.add(made);
        acts++;
        return rects.size() - 1;
    }

    int join(int number, int other, boolean below) {
        Rect one = usable(number);
        Rect two = usable(other);
        if (one == null || two == null) {
            return -1;
        }
        long a = below ? one.wide : one.high;
        long b = below ? two.wide : two.high;
        long meet = a / gcd(a, b) * b;
        Rect left = scaled(one, meet / a);
        Rect right = scaled(two, meet / b);
        Rect made = plain(below ? left.wide : left.wide + right.wide, below ? left.high + right.high : left.high);
        made.squares.addAll(left.squares);
        for (Square s : right.squares) {
            made.squares.add(new Square(s.x + (below ? 0 : left.wide), s.y + (below ? left.high : 0), s.size));
        }
        return put(made);
    }

    int grow(int number, boolean below) {
        Rect rect = usable(number);
        if (rect == null) {
            return -1;
        }
        Rect made = plain(rect.wide + (below ? 0 : rect.high), rect.high + (below ? rect.wide : 0));
        made.squares.addAll(rect.squares);
        made.squares.add(below ? new Square(0, rect.high, rect.wide) : new Square(rect.wide, 0, rect.high));
        return put(made);
    }

    int turn(int number, int turn) {
        Rect rect = usable(number);
        return rect == null || turn < 0 || turn > 7 ? -1 : put(turned(rect, turn));
    }

    int times(int number, int f) {
        Rect rect = usable(number);
        return rect == null || f < 1 || f > 9999 ? -1 : put(scaled(rect, f));
    }

    int lessen(int number) {
        Rect rect = usable(number);
        if (rect == null) {
            return -1;
        }
        long divisor = 0;
        for (Square s : rect.squares) {
            divisor = gcd(divisor, s.size);
        }
        Rect made = plain(rect.wide / divisor, rect.high / divisor);
        for (Square s : rect.squares) {
            made.squares.add(new Square(s.x / divisor, s.y / divisor, s.size / divisor));
        }
        return put(made);
    }

    int undo() {
        if (acts == 0) {
            return -1;
        }
        rects = new ArrayList<>(rects.subList(0, rects.size() - 1));
        acts--;
        return acts;
    }

    boolean keep(int k, boolean back) {
        if (k != 0 && k != 1 || back && keeps.get(k) == null) {
            return false;
        }
        if (back) {
            rects = new ArrayList<>(keeps.get(k));
            acts = 0;
        } else {
            keeps.set(k, new ArrayList<>(rects));
        }
        return true;
    }

    int count(int what) {
        switch (what) {
            case 0:
                return rects.size();
            case 1:
                return (int) rects.stream().filter(r -> r.fails).count();
            case 2:
                return (int) rects.stream().filter(r -> !r.fails && isPerfect(r)).count();
            case 3:
                return acts;
            case 4:
                return tape.length();
            case 5:
                return printed.length();
            default:
                return -1;
        }
    }

    String codeOf(int number) {
        return code(rects.get(number));
    }

    int squaresOf(int number) {
        return rects.get(number).squares.size();
    }

    private static long gcd(long a, long b) {
        return b == 0 ? a : gcd(b, a % b);
    }
}
