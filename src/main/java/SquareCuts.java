import java.util.Arrays;
import java.util.NoSuchElementException;

/** Rectangles cut in squares: told as drawn codes or as networks, measured, compared, made into others. */
public final class SquareCuts {
    public static final int NONE = -1;

    /** The answer where a rectangle fails, or is not of the kind that was asked for. */
    private static final int NOT_SO = -2;
    private static final int NO_CURRENT = Integer.MIN_VALUE;

    private static final int TAPE_BYTES = 600;
    private static final int FEED_BYTES = 20;
    private static final int MAX_TOLD = 6;
    private static final int MAX_RECTANGLES = 12;
    private static final int MAX_DRAWN = 24;
    private static final int MAX_POINTS = 9;
    private static final int MAX_WIRES = 14;
    private static final int MAX_SQUARES = 40;
    private static final int MAX_SIDE = 1_000_000_000;
    private static final int MAX_TIMES = 9999;
    private static final int MAX_LAYINGS = 20_000;
    private static final int TURNS = 8;

    private static final int DRAWN = 0;
    private static final int NET = 1;
    private static final int MADE = 2;

    private final Reader reader;
    private final GroupLayer groupLayer;
    private final NetSolver solver;
    private final NetLayer netLayer;
    private final Draft draft;
    private final Draft otherDraft;
    private final LineTable lineTable;
    private final Page page;
    private final Shelf shelf;
    private final Shelf firstKeep;
    private final Shelf secondKeep;
    private int undoable;

    public SquareCuts() {
        reader = new Reader();
        groupLayer = new GroupLayer();
        solver = new NetSolver();
        netLayer = new NetLayer();
        draft = new Draft();
        otherDraft = new Draft();
        lineTable = new LineTable();
        page = new Page();
        shelf = new Shelf();
        firstKeep = new Shelf();
        secondKeep = new Shelf();
    }

    public int feed(int a, int b, int c, int d, int e) {
        if (reader.fed + FEED_BYTES > TAPE_BYTES) {
            return NONE;
        }
        reader.takeFourBytes(a);
        reader.takeFourBytes(b);
        reader.takeFourBytes(c);
        reader.takeFourBytes(d);
        reader.takeFourBytes(e);
        return reader.fed;
    }

    public int text(int n) {
        if (n < 0 || n > reader.fed) {
            return NONE;
        }
        int fault = reader.read(n);
        if (fault != Reader.NO_FAULT) {
            return -2 - fault;
        }
        shelf.clear();
        firstKeep.clear();
        secondKeep.clear();
        undoable = 0;
        for (int i = 0; i < reader.told; i++) {
            shelf.put(reader.drawn[i] ? drawnTiling(i) : netTiling(i));
        }
        return shelf.held;
    }

    public int rect(int rect, int what) {
        Tiling tiling = shelf.find(rect);
        if (tiling == null || what < 0 || what > 7) {
            return NONE;
        }
        if (what == 7) {
            return tiling.kind;
        }
        if (tiling.fails) {
            return NOT_SO;
        }
        switch (what) {
            case 0:
                return tiling.total;
            case 1:
                return tiling.wide;
            case 2:
                return tiling.high;
            case 3:
                return tiling.isPerfect() ? 1 : 0;
            case 4:
                return tiling.parts() == 0 ? 1 : 0;
            case 5:
                return tiling.parts();
            default:
                return tiling.crosses();
        }
    }

    public int square(int rect, int k, int what) throws NoSuchElementException {
        Tiling tiling = shelf.find(rect);
        if (tiling == null || k < 0 || k >= tiling.total) {
            throw new NoSuchElementException("no such square");
        }
        switch (what) {
            case 0:
                return tiling.left[k];
            case 1:
                return tiling.top[k];
            case 2:
                return tiling.size[k];
            default:
                throw new NoSuchElementException("nothing such of a square");
        }
    }

    public int laid(int rect) {
        Tiling tiling = shelf.find(rect);
        if (tiling == null) {
            return NONE;
        }
        return tiling.kind == DRAWN ? tiling.laidTillEnd : NOT_SO;
    }

    public long area(int rect) {
        Tiling tiling = shelf.find(rect);
        if (tiling == null || tiling.fails) {
            return refusalFor(tiling);
        }
        return (long) tiling.wide * tiling.high;
    }

    public int least(int rect) {
        Tiling tiling = shelf.find(rect);
        if (tiling == null || tiling.fails) {
            return refusalFor(tiling);
        }
        return tiling.firstSmallest();
    }

    public int print(int rect) {
        Tiling tiling = shelf.find(rect);
        if (tiling == null || tiling.fails) {
            return refusalFor(tiling);
        }
        page.write(tiling);
        return page.length;
    }

    public int at(int i) {
        return i < 0 || i >= page.length ? NONE : page.bytes[i];
    }

    public int groups(int rect) {
        Tiling tiling = shelf.find(rect);
        if (tiling == null || tiling.fails) {
            return refusalFor(tiling);
        }
        return tiling.codeGroups();
    }

    public long trees(int rect) {
        Tiling tiling = shelf.find(rect);
        if (tiling == null) {
            return NONE;
        }
        return tiling.net == null ? NOT_SO : tiling.net.trees;
    }

    public int current(int rect, int wire) {
        Net net = flowingNet(rect);
        return net == null || wire < 0 || wire >= net.wires ? NO_CURRENT : net.currents[wire];
    }

    public int level(int rect, int point) {
        Net net = flowingNet(rect);
        return net == null || point < 0 || point >= net.points ? NO_CURRENT : net.levels[point];
    }

    public int layings(int rect) {
        Tiling tiling = shelf.find(rect);
        if (tiling == null) {
            return NONE;
        }
        return tiling.net == null ? NOT_SO : tiling.net.layings;
    }

    public int lines(int rect) {
        Tiling tiling = shelf.find(rect);
        if (tiling == null || tiling.fails) {
            return refusalFor(tiling);
        }
        lineTable.build(tiling);
        return lineTable.rows;
    }

    public int line(int rect, int line, int what) throws NoSuchElementException {
        Tiling tiling = shelf.find(rect);
        if (tiling == null || tiling.fails) {
            throw new NoSuchElementException("no such rectangle");
        }
        lineTable.build(tiling);
        if (line < 0 || line >= lineTable.rows) {
            throw new NoSuchElementException("no such line");
        }
        switch (what) {
            case 0:
                return lineTable.depth[line];
            case 1:
                return lineTable.left[line];
            case 2:
                return lineTable.right[line];
            case 3:
                return lineTable.flow[line];
            default:
                throw new NoSuchElementException("nothing such of a line");
        }
    }

    public int side(int rect, int k, boolean lower) {
        Tiling tiling = shelf.find(rect);
        if (tiling == null || k < 0 || k >= tiling.total) {
            return NONE;
        }
        lineTable.build(tiling);
        return lineTable.rowOf(lower ? tiling.bottom(k) : tiling.top[k], tiling.left[k]);
    }

    public int alike(int rect, int other) {
        Tiling one = shelf.find(rect);
        Tiling two = shelf.find(other);
        if (one == null || two == null) {
            return NONE;
        }
        if (one.fails || two.fails || one.total != two.total) {
            return 0;
        }
        int oneDivisor = one.commonDivisor();
        int twoDivisor = two.commonDivisor();
        draft.takeTurned(one, 0, oneDivisor);
        for (int t = 0; t < TURNS; t++) {
            otherDraft.takeTurned(two, t, twoDivisor);
            if (draft.equalTo(otherDraft)) {
                return 1;
            }
        }
        return 0;
    }

    public int join(int rect, int other, boolean below) {
        Tiling one = usable(rect);
        Tiling two = usable(other);
        if (one == null || two == null || one.total + two.total > MAX_SQUARES) {
            return NONE;
        }
        int oneSide = below ? one.wide : one.high;
        int twoSide = below ? two.wide : two.high;
        int divisor = greatestDivisor(oneSide, twoSide);
        if (divisor == 0) {
            return NONE;
        }
        int oneTimes = twoSide / divisor;
        int twoTimes = oneSide / divisor;
        long oneWide = (long) one.wide * oneTimes;
        long oneHigh = (long) one.high * oneTimes;
        long wide = below ? oneWide : oneWide + (long) two.wide * twoTimes;
        long high = below ? oneHigh + (long) two.high * twoTimes : oneHigh;
        if (isTooLarge(wide, high)) {
            return NONE;
        }
        draft.begin((int) wide, (int) high);
        draft.addTimes(one, oneTimes, 0, 0);
        draft.addTimes(two, twoTimes, below ? 0 : (int) oneWide, below ? (int) oneHigh : 0);
        return putMade();
    }

    public int grow(int rect, boolean below) {
        Tiling tiling = usable(rect);
        if (tiling == null || tiling.total + 1 > MAX_SQUARES) {
            return NONE;
        }
        long sum = (long) tiling.wide + tiling.high;
        long wide = below ? tiling.wide : sum;
        long high = below ? sum : tiling.high;
        if (isTooLarge(wide, high)) {
            return NONE;
        }
        draft.begin((int) wide, (int) high);
        draft.addTimes(tiling, 1, 0, 0);
        if (below) {
            draft.add(0, tiling.high, tiling.wide);
        } else {
            draft.add(tiling.wide, 0, tiling.high);
        }
        return putMade();
    }

    public int turn(int rect, int turn) {
        Tiling tiling = usable(rect);
        if (tiling == null || turn < 0 || turn >= TURNS) {
            return NONE;
        }
        draft.takeTurned(tiling, turn, 1);
        return putMade();
    }

    public int times(int rect, int f) {
        Tiling tiling = usable(rect);
        if (tiling == null || f < 1 || f > MAX_TIMES) {
            return NONE;
        }
        long wide = (long) tiling.wide * f;
        long high = (long) tiling.high * f;
        if (isTooLarge(wide, high)) {
            return NONE;
        }
        draft.begin((int) wide, (int) high);
        draft.addTimes(tiling, f, 0, 0);
        return putMade();
    }

    public int lessen(int rect) {
        Tiling tiling = usable(rect);
        if (tiling == null) {
            return NONE;
        }
        draft.takeTurned(tiling, 0, tiling.commonDivisor());
        return putMade();
    }

    public int undo() {
        if (undoable == 0) {
            return NONE;
        }
        // An act always puts its rectangle last, and nothing else puts one behind it.
        shelf.dropLast();
        undoable--;
        return undoable;
    }

    public boolean keep(int k, boolean back) {
        Shelf kept = k == 0 ? firstKeep : k == 1 ? secondKeep : null;
        if (kept == null || back && !kept.isFilled) {
            return false;
        }
        if (back) {
            shelf.copyFrom(kept);
            undoable = 0;
        } else {
            kept.copyFrom(shelf);
        }
        return true;
    }

    public int count(int what) {
        switch (what) {
            case 0:
                return shelf.held;
            case 1:
                return shelf.failing();
            case 2:
                return shelf.perfectOnes();
            case 3:
                return undoable;
            case 4:
                return reader.fed;
            case 5:
                return page.length;
            default:
                return NONE;
        }
    }

    private Tiling drawnTiling(int told) {
        boolean fits = groupLayer.layGroups(reader.numbers[told], reader.groupOf[told], reader.given[told], draft);
        return new Tiling(DRAWN, fits ? draft : null, groupLayer.laidSquares, null);
    }

    private Tiling netTiling(int told) {
        Net net = solver.solve(reader.numbers[told], reader.given[told]);
        boolean found = net.trees > 0 && netLayer.search(net, solver.starts, draft);
        return new Tiling(NET, found ? draft : null, 0, net);
    }

    /** What a call answers where there is no rectangle, or it fails. */
    private static int refusalFor(Tiling tiling) {
        return tiling == null ? NONE : NOT_SO;
    }

    private Net flowingNet(int rect) {
        Tiling tiling = shelf.find(rect);
        if (tiling == null || tiling.net == null || tiling.net.trees == 0) {
            return null;
        }
        return tiling.net;
    }

    /** What an act may begin with; null too where no rectangle more has room. */
    private Tiling usable(int rect) {
        Tiling tiling = shelf.find(rect);
        return tiling == null || tiling.fails || shelf.held >= MAX_RECTANGLES ? null : tiling;
    }

    private int putMade() {
        draft.sortAsCode();
        shelf.put(new Tiling(MADE, draft, 0, null));
        undoable++;
        return shelf.held - 1;
    }

    private static boolean isTooLarge(long wide, long high) {
        return wide > MAX_SIDE || high > MAX_SIDE;
    }

    private static int greatestDivisor(int a, int b) {
        int big = Math.max(a, b);
        int small = Math.min(a, b);
        // Euclid's steps for two ints are fewer than fifty.
        for (int step = 0; step < 100 && small != 0; step++) {
            int rest = big % small;
            big = small;
            small = rest;
        }
        return big;
    }

    /** Holds the tape, reads it token by token, and keeps what the lines tell till the next text is read. */
    private static final class Reader {
        static final int NO_FAULT = 0;

        private static final int NO_TEXT = 1;
        private static final int NAME_THERE = 2;
        private static final int WRONG_NUMBER = 3;
        private static final int TOO_MANY = 4;

        private static final int END = 0;
        private static final int WORD = 1;
        private static final int NUMBER = 2;
        private static final int OPEN = 3;
        private static final int CLOSE = 4;
        private static final int SEMICOLON = 5;
        private static final int NO_TOKEN = 6;

        private static final int MAX_WORD = 6;
        private static final int MAX_DIGITS = 4;
        private static final int MAX_NUMBERS = 1 + 2 * MAX_WIRES;

        // A word of six letters, eight bits each, fits in a long: so words are compared as numbers.
        private static final long WORD_DRAWN = 0x647261776EL;
        private static final long WORD_NET = 0x6E6574L;

        private final byte[] tape = new byte[TAPE_BYTES];
        private int length;
        private int place;
        private int token;
        private int start;
        private long value;
        private final long[] names = new long[MAX_TOLD];

        int fed;
        int told;
        final boolean[] drawn = new boolean[MAX_TOLD];
        final int[] given = new int[MAX_TOLD];
        final int[][] numbers = new int[MAX_TOLD][MAX_NUMBERS];
        final int[][] groupOf = new int[MAX_TOLD][MAX_NUMBERS];

        void takeFourBytes(int number) {
            for (int shift = 24; shift >= 0 && fed < TAPE_BYTES; shift -= 8) {
                tape[fed] = (byte) (number >> shift);
                fed++;
            }
        }

        /** Takes the first n bytes and empties the tape: NO_FAULT, or 8 times the fault's place and its kind. */
        int read(int n) {
            length = Math.min(n, fed);
            fed = 0;
            place = 0;
            told = 0;
            nextToken();
            for (int i = 0; i <= MAX_TOLD && token != END; i++) {
                int fault = readLine();
                if (fault != NO_FAULT) {
                    return fault;
                }
            }
            return NO_FAULT;
        }

        private int readLine() {
            boolean isDrawn = isWord(WORD_DRAWN);
            if (!isDrawn && !isWord(WORD_NET)) {
                return faultOf(NO_TEXT);
            }
            if (told >= MAX_TOLD) {
                return faultOf(TOO_MANY);
            }
            nextToken();
            if (token != WORD || isWord(WORD_DRAWN) || isWord(WORD_NET)) {
                return faultOf(NO_TEXT);
            }
            if (isNameThere()) {
                return faultOf(NAME_THERE);
            }
            names[told] = value;
            drawn[told] = isDrawn;
            given[told] = 0;
            nextToken();
            int fault = isDrawn ? readGroups() : readNet();
            if (fault != NO_FAULT) {
                return fault;
            }
            if (token != SEMICOLON) {
                return faultOf(NO_TEXT);
            }
            told++;
            nextToken();
            return NO_FAULT;
        }

        private int readGroups() {
            if (token != OPEN) {
                return faultOf(NO_TEXT);
            }
            // Each group has a number at least, so the limit on these ends the loop.
            for (int group = 0; group <= MAX_DRAWN && token == OPEN; group++) {
                int fault = readGroup(group);
                if (fault != NO_FAULT) {
                    return fault;
                }
            }
            return NO_FAULT;
        }

        private int readGroup(int group) {
            nextToken();
            if (token != NUMBER) {
                return faultOf(NO_TEXT);
            }
            for (int i = 0; i <= MAX_DRAWN && token == NUMBER; i++) {
                if (value < 1) {
                    return faultOf(WRONG_NUMBER);
                }
                if (given[told] >= MAX_DRAWN) {
                    return faultOf(TOO_MANY);
                }
                groupOf[told][given[told]] = group;
                holdValue();
                nextToken();
            }
            if (token != CLOSE) {
                return faultOf(NO_TEXT);
            }
            nextToken();
            return NO_FAULT;
        }

        private int readNet() {
            if (token != NUMBER) {
                return faultOf(NO_TEXT);
            }
            if (value < 2 || value > MAX_POINTS) {
                return faultOf(WRONG_NUMBER);
            }
            long points = value;
            holdValue();
            nextToken();
            for (int wire = 0; wire <= MAX_WIRES && token == NUMBER; wire++) {
                int fault = readWire(wire, points);
                if (fault != NO_FAULT) {
                    return fault;
                }
            }
            return NO_FAULT;
        }

        private int readWire(int wire, long points) {
            long first = value;
            if (first >= points) {
                return faultOf(WRONG_NUMBER);
            }
            if (wire >= MAX_WIRES) {
                return faultOf(TOO_MANY);
            }
            holdValue();
            nextToken();
            if (token != NUMBER) {
                return faultOf(NO_TEXT);
            }
            if (value >= points || value == first) {
                return faultOf(WRONG_NUMBER);
            }
            holdValue();
            nextToken();
            return NO_FAULT;
        }

        private void holdValue() {
            int index = given[told];
            if (index < MAX_NUMBERS) {
                numbers[told][index] = (int) value;
                given[told]++;
            }
        }

        private boolean isNameThere() {
            for (int i = 0; i < told; i++) {
                if (names[i] == value) {
                    return true;
                }
            }
            return false;
        }

        private boolean isWord(long word) {
            return token == WORD && value == word;
        }

        private int faultOf(int kind) {
            return 8 * start + kind;
        }

        private void nextToken() {
            while (place < length && (tape[place] == ' ' || tape[place] == '\n')) {
                place++;
            }
            start = place;
            value = 0;
            token = place < length ? tokenBegunBy(tape[place]) : END;
            if (token == WORD) {
                for (; place < length && tokenBegunBy(tape[place]) == WORD; place++) {
                    value = (value << 8) + tape[place];
                }
                token = place - start <= MAX_WORD ? WORD : NO_TOKEN;
            } else if (token == NUMBER) {
                for (; place < length && tokenBegunBy(tape[place]) == NUMBER; place++) {
                    value = 10 * value + tape[place] - '0';
                }
                token = place - start <= MAX_DIGITS ? NUMBER : NO_TOKEN;
            } else if (token != END) {
                place++;
            }
        }

        private static int tokenBegunBy(byte sign) {
            if (sign >= 'a' && sign <= 'z') {
                return WORD;
            }
            if (sign >= '0' && sign <= '9') {
                return NUMBER;
            }
            switch (sign) {
                case '(':
                    return OPEN;
                case ')':
                    return CLOSE;
                case ';':
                    return SEMICOLON;
                default:
                    return NO_TOKEN;
            }
        }
    }

    /** The lower outline of what lies, as pieces from left to right; neighbours have unlike depths. */
    private static final class Outline {
        private final int[] end;
        private final int[] depth;
        private int notch;
        int pieces;

        /** One piece is there at first, and a square makes one more at the most. */
        Outline(int squares) {
            end = new int[squares + 1];
            depth = new int[squares + 1];
        }

        void open(int width) {
            end[0] = width;
            depth[0] = 0;
            pieces = 1;
            notch = 0;
        }

        void copyFrom(Outline other) {
            pieces = Math.min(other.pieces, end.length);
            notch = other.notch;
            System.arraycopy(other.end, 0, end, 0, pieces);
            System.arraycopy(other.depth, 0, depth, 0, pieces);
        }

        int notchLeft() {
            return notch == 0 ? 0 : end[notch - 1];
        }

        int notchWidth() {
            return end[notch] - notchLeft();
        }

        int notchDepth() {
            return depth[notch];
        }

        /** Lays a square, no wider than the notch, to its left end. */
        void lay(int size) {
            int newEnd = notchLeft() + size;
            if (newEnd < end[notch]) {
                splitNotch(newEnd, depth[notch] + size);
            } else {
                depth[notch] += size;
                mergePieces();
                findNotch();
            }
        }

        /** What is left of the notch is the notch still: nothing of its depth is ahead of it. */
        private void splitNotch(int newEnd, int newDepth) {
            if (notch > 0 && depth[notch - 1] == newDepth) {
                end[notch - 1] = newEnd;
                return;
            }
            if (pieces >= end.length) {
                return;
            }
            for (int i = pieces; i > notch; i--) {
                end[i] = end[i - 1];
                depth[i] = depth[i - 1];
            }
            pieces++;
            end[notch] = newEnd;
            depth[notch] = newDepth;
            notch++;
        }

        private void mergePieces() {
            int last = 0;
            for (int i = 1; i < pieces; i++) {
                if (depth[i] != depth[last]) {
                    last++;
                    depth[last] = depth[i];
                }
                end[last] = end[i];
            }
            pieces = last + 1;
        }

        private void findNotch() {
            notch = 0;
            for (int i = 1; i < pieces; i++) {
                if (depth[i] < depth[notch]) {
                    notch = i;
                }
            }
        }
    }

    /** Lays the groups of a drawn rectangle. */
    private static final class GroupLayer {
        private final Outline outline = new Outline(MAX_DRAWN);
        int laidSquares;

        /** Whether all groups fit and end in one piece; the squares stand in the draft then. */
        boolean layGroups(int[] sizes, int[] groupOf, int given, Draft draft) {
            laidSquares = 0;
            int wide = groupSum(sizes, groupOf, given);
            draft.begin(wide, 0);
            outline.open(wide);
            for (int group = 0; group < given && laidSquares < given; group++) {
                if (groupSum(sizes, groupOf, given) != outline.notchWidth()) {
                    return false;
                }
                layGroup(sizes, groupOf, given, draft);
            }
            draft.high = outline.notchDepth();
            return outline.pieces == 1;
        }

        private void layGroup(int[] sizes, int[] groupOf, int given, Draft draft) {
            int first = laidSquares;
            for (int i = first; i < given && groupOf[i] == groupOf[first]; i++) {
                draft.add(outline.notchLeft(), outline.notchDepth(), sizes[i]);
                outline.lay(sizes[i]);
                laidSquares++;
            }
        }

        /** The sum of the group that comes next. */
        private int groupSum(int[] sizes, int[] groupOf, int given) {
            int sum = 0;
            for (int i = laidSquares; i < given && groupOf[i] == groupOf[laidSquares]; i++) {
                sum += sizes[i];
            }
            return sum;
        }
    }

    /** What flows in a net: all divided, but for the trees. */
    private static final class Net {
        final int points;
        final int wires;
        final int[] levels;
        final int[] currents;
        long trees;
        int wide;
        int high;
        int layings;

        Net(int points, int wires) {
            this.points = points;
            this.wires = wires;
            levels = new int[points];
            currents = new int[wires];
        }
    }

    /** Finds a net's trees and levels as whole numbers. */
    private static final class NetSolver {
        private final long[][] matrix = new long[MAX_POINTS][MAX_POINTS + 1];
        private final int[] from = new int[MAX_WIRES];
        private final int[] to = new int[MAX_WIRES];
        /** The level at which each wire of the net solved last begins. */
        final int[] starts = new int[MAX_WIRES];

        /** The numbers: how many points, then two for each wire. */
        Net solve(int[] numbers, int given) {
            int points = Math.max(2, Math.min(numbers[0], MAX_POINTS));
            int wires = Math.max(0, Math.min((given - 1) / 2, MAX_WIRES));
            for (int i = 0; i < wires; i++) {
                from[i] = numbers[1 + 2 * i];
                to[i] = numbers[2 + 2 * i];
            }
            Net net = new Net(points, wires);
            fillMatrix(points, wires);
            net.trees = eliminate(points - 1);
            if (net.trees > 0) {
                setFlow(net);
            }
            return net;
        }

        /**
         * The Laplace matrix without the last point, whose level is 0, and a current of 1 into point 0:
         * its determinant is the number of trees.
         */
        private void fillMatrix(int points, int wires) {
            for (int i = 0; i < points; i++) {
                Arrays.fill(matrix[i], 0L);
            }
            for (int i = 0; i < wires; i++) {
                int a = from[i];
                int b = to[i];
                matrix[a][a]++;
                matrix[b][b]++;
                matrix[a][b]--;
                matrix[b][a]--;
            }
            int last = points - 1;
            for (int i = 0; i < last; i++) {
                matrix[i][last] = i == 0 ? 1 : 0;
            }
        }

        /**
         * Elimination without fractions (Bareiss): every entry stays a minor of the matrix, so that each
         * division leaves no rest, and the right column ends as the levels for a current of the
         * determinant. No rows need be exchanged: if a pivot is 0 here, the determinant is 0.
         */
        private long eliminate(int rows) {
            long divisor = 1;
            for (int k = 0; k < rows; k++) {
                long pivot = matrix[k][k];
                if (pivot == 0) {
                    return 0;
                }
                for (int i = 0; i < rows; i++) {
                    if (i != k) {
                        reduceRow(i, k, rows, divisor);
                    }
                }
                divisor = pivot;
            }
            return divisor;
        }

        private void reduceRow(int i, int k, int rows, long divisor) {
            if (divisor == 0) {
                return;
            }
            long pivot = matrix[k][k];
            long factor = matrix[i][k];
            for (int j = 0; j <= rows; j++) {
                matrix[i][j] = (pivot * matrix[i][j] - factor * matrix[k][j]) / divisor;
            }
        }

        private void setFlow(Net net) {
            int last = net.points - 1;
            for (int i = 0; i < last; i++) {
                net.levels[i] = (int) matrix[i][last];
            }
            int divisor = 0;
            for (int i = 0; i < net.wires; i++) {
                net.currents[i] = net.levels[from[i]] - net.levels[to[i]];
                divisor = greatestDivisor(divisor, Math.abs(net.currents[i]));
            }
            if (divisor == 0) {
                return;
            }
            for (int i = 0; i < net.points; i++) {
                net.levels[i] /= divisor;
            }
            for (int i = 0; i < net.wires; i++) {
                net.currents[i] /= divisor;
                starts[i] = Math.max(net.levels[from[i]], net.levels[to[i]]);
            }
            net.wide = (int) (net.trees / divisor);
            net.high = net.levels[0];
        }
    }

    /** Lays the wires of a net as squares, taking back what leads no further. */
    private static final class NetLayer {
        // Each step lays a square or takes one off, and none is taken off that was not laid.
        private static final int MAX_STEPS = 2 * MAX_LAYINGS + 2;

        /** The outline at each number of squares laid, so that taking one off costs nothing. */
        private final Outline[] outlines = new Outline[MAX_WIRES + 1];
        private final int[] size = new int[MAX_WIRES];
        private final int[] chosen = new int[MAX_WIRES];
        private final boolean[] used = new boolean[MAX_WIRES];
        private int squares;

        NetLayer() {
            for (int i = 0; i < outlines.length; i++) {
                outlines[i] = new Outline(MAX_WIRES);
            }
        }

        /** Whether a laying of all was found; the squares stand in the draft then. */
        boolean search(Net net, int[] starts, Draft draft) {
            takeSizes(net);
            outlines[0].open(net.wide);
            int standing = 0;
            int from = 0;
            for (int step = 0; step < MAX_STEPS && standing < squares; step++) {
                int wire = nextFitting(net, starts, standing, from);
                if (wire != NONE) {
                    if (net.layings >= MAX_LAYINGS) {
                        return false;
                    }
                    net.layings++;
                    layWire(wire, standing);
                    standing++;
                    from = 0;
                } else {
                    if (standing == 0) {
                        return false;
                    }
                    standing--;
                    used[chosen[standing]] = false;
                    from = chosen[standing] + 1;
                }
            }
            if (standing < squares) {
                return false;
            }
            fillDraft(net, draft);
            return true;
        }

        private void takeSizes(Net net) {
            squares = 0;
            for (int i = 0; i < net.wires; i++) {
                size[i] = Math.abs(net.currents[i]);
                used[i] = false;
                squares += size[i] > 0 ? 1 : 0;
            }
        }

        private int nextFitting(Net net, int[] starts, int standing, int from) {
            Outline outline = outlines[standing];
            int level = net.high - outline.notchDepth();
            int width = outline.notchWidth();
            for (int i = from; i < net.wires; i++) {
                if (!used[i] && size[i] > 0 && size[i] <= width && starts[i] == level) {
                    return i;
                }
            }
            return NONE;
        }

        private void layWire(int wire, int standing) {
            chosen[standing] = wire;
            used[wire] = true;
            outlines[standing + 1].copyFrom(outlines[standing]);
            outlines[standing + 1].lay(size[wire]);
        }

        private void fillDraft(Net net, Draft draft) {
            draft.begin(net.wide, net.high);
            for (int i = 0; i < squares; i++) {
                draft.add(outlines[i].notchLeft(), outlines[i].notchDepth(), size[chosen[i]]);
            }
        }
    }

    /** Room in which the squares of one rectangle are put together, used again and again. */
    private static final class Draft {
        final int[] left = new int[MAX_SQUARES];
        final int[] top = new int[MAX_SQUARES];
        final int[] size = new int[MAX_SQUARES];
        int total;
        int wide;
        int high;

        void begin(int newWide, int newHigh) {
            wide = newWide;
            high = newHigh;
            total = 0;
        }

        void add(int x, int y, int s) {
            if (total < MAX_SQUARES) {
                left[total] = x;
                top[total] = y;
                size[total] = s;
                total++;
            }
        }

        void addTimes(Tiling tiling, int factor, int right, int down) {
            for (int k = 0; k < tiling.total; k++) {
                add(right + tiling.left[k] * factor, down + tiling.top[k] * factor, tiling.size[k] * factor);
            }
        }

        /** Takes all of a rectangle, turned and divided, in the order of the code. */
        void takeTurned(Tiling tiling, int turn, int divisor) {
            if (divisor == 0) {
                return;
            }
            boolean isQuarter = (turn & 1) == 1;
            int newWide = isQuarter ? tiling.high : tiling.wide;
            int newHigh = isQuarter ? tiling.wide : tiling.high;
            begin(newWide / divisor, newHigh / divisor);
            for (int k = 0; k < tiling.total; k++) {
                int fromRight = tiling.wide - tiling.right(k);
                int fromBelow = tiling.high - tiling.bottom(k);
                int x = turn >= 4 ? fromRight : tiling.left[k];
                int mirroredX = turn >= 4 ? tiling.left[k] : fromRight;
                int y = tiling.top[k];
                int s = tiling.size[k] / divisor;
                switch (turn & 3) {
                    case 0:
                        add(x / divisor, y / divisor, s);
                        break;
                    case 1:
                        add(fromBelow / divisor, x / divisor, s);
                        break;
                    case 2:
                        add(mirroredX / divisor, fromBelow / divisor, s);
                        break;
                    default:
                        add(y / divisor, mirroredX / divisor, s);
                        break;
                }
            }
            sortAsCode();
        }

        /**
         * The notch is always the first of the least depth, so a code has its squares by depth and then
         * from the left.
         */
        void sortAsCode() {
            for (int i = 1; i < total; i++) {
                int x = left[i];
                int y = top[i];
                int s = size[i];
                int j = i;
                for (; j > 0 && isBehind(j - 1, x, y); j--) {
                    left[j] = left[j - 1];
                    top[j] = top[j - 1];
                    size[j] = size[j - 1];
                }
                left[j] = x;
                top[j] = y;
                size[j] = s;
            }
        }

        private boolean isBehind(int k, int x, int y) {
            return top[k] > y || top[k] == y && left[k] > x;
        }

        boolean equalTo(Draft other) {
            if (total != other.total || wide != other.wide || high != other.high) {
                return false;
            }
            for (int k = 0; k < total; k++) {
                if (left[k] != other.left[k] || top[k] != other.top[k] || size[k] != other.size[k]) {
                    return false;
                }
            }
            return true;
        }
    }

    /** A rectangle. It never changes, so that keeps can hold the same one. */
    private static final class Tiling {
        private static final int NOT_COUNTED = -1;

        final int kind;
        final boolean fails;
        final int laidTillEnd;
        final Net net;
        final int total;
        final int wide;
        final int high;
        final int[] left;
        final int[] top;
        final int[] size;
        private int knownParts = NOT_COUNTED;

        /** Without a draft it fails. */
        Tiling(int kind, Draft draft, int laidTillEnd, Net net) {
            this.kind = kind;
            this.laidTillEnd = laidTillEnd;
            this.net = net;
            fails = draft == null;
            total = draft == null ? 0 : draft.total;
            wide = draft == null ? 0 : draft.wide;
            high = draft == null ? 0 : draft.high;
            left = new int[total];
            top = new int[total];
            size = new int[total];
            for (int k = 0; k < total && draft != null; k++) {
                left[k] = draft.left[k];
                top[k] = draft.top[k];
                size[k] = draft.size[k];
            }
        }

        int right(int k) {
            return left[k] + size[k];
        }

        int bottom(int k) {
            return top[k] + size[k];
        }

        boolean isPerfect() {
            for (int a = 0; a < total; a++) {
                for (int b = a + 1; b < total; b++) {
                    if (size[a] == size[b]) {
                        return false;
                    }
                }
            }
            return total >= 2;
        }

        int firstSmallest() {
            int found = 0;
            for (int k = 1; k < total; k++) {
                if (size[k] < size[found]) {
                    found = k;
                }
            }
            return found;
        }

        /** The greatest number that divides all sizes, and so all places too, which are sums of sizes. */
        int commonDivisor() {
            int divisor = 0;
            for (int k = 0; k < total; k++) {
                divisor = greatestDivisor(divisor, size[k]);
            }
            return divisor;
        }

        boolean startsGroup(int k) {
            return k == 0 || top[k] != top[k - 1] || left[k] != right(k - 1);
        }

        int codeGroups() {
            int found = 0;
            for (int k = 0; k < total; k++) {
                found += startsGroup(k) ? 1 : 0;
            }
            return found;
        }

        int parts() {
            if (knownParts == NOT_COUNTED) {
                int found = 0;
                for (int a = 0; a < total; a++) {
                    for (int b = 0; b < total; b++) {
                        found += a != b && isPart(a, b) ? 1 : 0;
                    }
                }
                knownParts = found;
            }
            return knownParts;
        }

        /** Whether a part begins with the left upper corner of a and ends with the right lower one of b. */
        private boolean isPart(int a, int b) {
            int x = left[a];
            int y = top[a];
            int endX = right(b);
            int endY = bottom(b);
            if (right(a) > endX || bottom(a) > endY || left[b] < x || top[b] < y) {
                return false;
            }
            int inside = 0;
            for (int k = 0; k < total; k++) {
                boolean touches = left[k] < endX && right(k) > x && top[k] < endY && bottom(k) > y;
                if (touches && (left[k] < x || right(k) > endX || top[k] < y || bottom(k) > endY)) {
                    return false;
                }
                inside += touches ? 1 : 0;
            }
            return inside < total;
        }

        int crosses() {
            int found = 0;
            for (int k = 0; k < total; k++) {
                found += cornersAt(left[k], top[k]) == 4 ? 1 : 0;
            }
            return found;
        }

        private int cornersAt(int x, int y) {
            int found = 0;
            for (int k = 0; k < total; k++) {
                boolean besideX = left[k] == x || right(k) == x;
                boolean besideY = top[k] == y || bottom(k) == y;
                found += besideX && besideY ? 1 : 0;
            }
            return found;
        }
    }

    /** The lines of one rectangle, by depth and then from the left. */
    private static final class LineTable {
        private static final int MAX_SIDES = 2 * MAX_SQUARES;

        final int[] depth = new int[MAX_SIDES];
        final int[] left = new int[MAX_SIDES];
        final int[] right = new int[MAX_SIDES];
        final int[] flow = new int[MAX_SIDES];
        int rows;
        private Tiling builtFor;

        void build(Tiling tiling) {
            // Calls for lines come many behind one another for one rectangle, which never changes.
            if (tiling == builtFor) {
                return;
            }
            builtFor = tiling;
            rows = 0;
            for (int k = 0; k < tiling.total; k++) {
                insertSide(tiling.top[k], tiling.left[k], tiling.right(k), tiling.size[k]);
            }
            for (int k = 0; k < tiling.total; k++) {
                insertSide(tiling.bottom(k), tiling.left[k], tiling.right(k), -tiling.size[k]);
            }
            mergeSides();
        }

        private void insertSide(int y, int from, int to, int flowing) {
            if (rows >= MAX_SIDES) {
                return;
            }
            int i = rows;
            for (; i > 0 && (depth[i - 1] > y || depth[i - 1] == y && left[i - 1] > from); i--) {
                copyRow(i - 1, i);
            }
            depth[i] = y;
            left[i] = from;
            right[i] = to;
            flow[i] = flowing;
            rows++;
        }

        private void copyRow(int from, int to) {
            depth[to] = depth[from];
            left[to] = left[from];
            right[to] = right[from];
            flow[to] = flow[from];
        }

        private void mergeSides() {
            int last = NONE;
            for (int i = 0; i < rows; i++) {
                if (last >= 0 && depth[i] == depth[last] && left[i] <= right[last]) {
                    right[last] = Math.max(right[last], right[i]);
                    flow[last] += flow[i];
                } else {
                    last++;
                    copyRow(i, last);
                }
            }
            rows = last + 1;
        }

        int rowOf(int y, int x) {
            for (int i = 0; i < rows; i++) {
                if (depth[i] == y && left[i] <= x && x < right[i]) {
                    return i;
                }
            }
            return NONE;
        }
    }

    /** What was printed last. */
    private static final class Page {
        private static final int HIGHEST_POWER = 1_000_000_000;
        // At most ten digits for a square, and two signs.
        private static final int MAX_PRINTED = 12 * MAX_SQUARES;

        final byte[] bytes = new byte[MAX_PRINTED];
        int length;

        void write(Tiling tiling) {
            length = 0;
            for (int k = 0; k < tiling.total; k++) {
                if (!tiling.startsGroup(k)) {
                    put(' ');
                } else {
                    if (k > 0) {
                        put(')');
                    }
                    put('(');
                }
                putNumber(tiling.size[k]);
            }
            put(')');
        }

        private void putNumber(int number) {
            for (int power = HIGHEST_POWER; power > 0; power /= 10) {
                if (power <= number || power == 1) {
                    put('0' + number / power % 10);
                }
            }
        }

        private void put(int sign) {
            if (length < MAX_PRINTED) {
                bytes[length] = (byte) sign;
                length++;
            }
        }
    }

    /** Rectangles in their order: those that there are, or those of a keep. */
    private static final class Shelf {
        private final Tiling[] places = new Tiling[MAX_RECTANGLES];
        int held;
        /** A keep may have been laid when there were no rectangles: so this stands beside their number. */
        boolean isFilled;

        void clear() {
            held = 0;
            isFilled = false;
        }

        void put(Tiling tiling) {
            if (held < MAX_RECTANGLES) {
                places[held] = tiling;
                held++;
            }
        }

        void dropLast() {
            if (held > 0) {
                held--;
            }
        }

        void copyFrom(Shelf other) {
            held = other.held;
            isFilled = true;
            for (int i = 0; i < held; i++) {
                places[i] = other.places[i];
            }
        }

        /** Null where there is none such. */
        Tiling find(int number) {
            return number < 0 || number >= held ? null : places[number];
        }

        int failing() {
            int found = 0;
            for (int i = 0; i < held; i++) {
                Tiling tiling = places[i];
                found += tiling != null && tiling.fails ? 1 : 0;
            }
            return found;
        }

        int perfectOnes() {
            int found = 0;
            for (int i = 0; i < held; i++) {
                Tiling tiling = places[i];
                found += tiling != null && tiling.isPerfect() ? 1 : 0;
            }
            return found;
        }
    }
}
