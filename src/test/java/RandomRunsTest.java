import java.util.NoSuchElementException;
import java.util.Random;
import java.util.function.LongSupplier;

/** All promises: random runs of calls, always the same ones, each answer held against the model. */
public final class RandomRunsTest {
    private static final int RUNS = 400;
    private static final int CALLS = 512;
    private static final long THROWN = Long.MAX_VALUE;
    private static final String SIGNS = "(); \n0123456789abdrawnet?";

    private final Check check = new Check("RandomRunsTest");
    private final Random random = new Random(20261118);
    private SquareCuts cuts;
    private Model model;
    private int run;
    private int calls;

    public static void main(String[] args) {
        RandomRunsTest test = new RandomRunsTest();
        for (int i = 0; i < RUNS; i++) {
            test.oneRun(i);
        }
        test.check.end();
    }

    private void oneRun(int number) {
        run = number;
        cuts = new SquareCuts();
        model = new Model();
        calls = 0;
        while (calls < CALLS - 60) {
            if (calls == 0 || random.nextInt(60) == 0) {
                tellText();
            } else {
                oneCall();
            }
        }
    }

    private void same(String call, LongSupplier got, LongSupplier due) {
        calls++;
        check.due("run " + run + ", call " + calls + ": " + call, answer(got), answer(due));
    }

    private static long answer(LongSupplier call) {
        try {
            return call.getAsLong();
        } catch (NoSuchElementException e) {
            return THROWN;
        }
    }

    // ---- texts

    private void tellText() {
        StringBuilder text = new StringBuilder();
        int lines = 1 + random.nextInt(random.nextInt(8) == 0 ? 7 : 6);
        for (int i = 0; i < lines; i++) {
            String line = random.nextInt(3) == 0 ? netLine(i) : drawnLine(i);
            if (text.length() + line.length() < 590) {
                text.append(line);
            }
        }
        if (random.nextInt(4) == 0) {
            spoil(text);
        }
        String told = text.substring(0, Math.min(600, text.length()));
        for (int i = 0; i < told.length(); i += 20) {
            int a = Check.four(told, i);
            int b = Check.four(told, i + 4);
            int c = Check.four(told, i + 8);
            int d = Check.four(told, i + 12);
            int e = Check.four(told, i + 16);
            same("feed", () -> cuts.feed(a, b, c, d, e), () -> model.feed(a, b, c, d, e));
        }
        int n = random.nextInt(30) == 0 ? random.nextInt(640) - 20 : told.length();
        same("text(" + n + ") of " + told, () -> cuts.text(n), () -> model.text(n));
        if (n != told.length()) {
            same("text(0)", () -> cuts.text(0), () -> model.text(0));
        }
    }

    private String name(int i) {
        return random.nextInt(40) == 0 ? "a" : String.valueOf((char) ('a' + i)).repeat(1 + random.nextInt(6));
    }

    private String drawnLine(int i) {
        Model maker = new Model();
        String first = random.nextBoolean() ? "drawn a (1);drawn b (18 15)(7 8)(14 4)(10 1)(9);"
            : "drawn a (3);drawn b (25 16)(9 7)(2 5)(1 4 13)(3)(14 10 9)(1);";
        for (int k = 0; k < first.length(); k += 20) {
            maker.feed(Check.four(first, k), Check.four(first, k + 4), Check.four(first, k + 8),
                Check.four(first, k + 12), Check.four(first, k + 16));
        }
        maker.text(first.length());
        int acts = random.nextInt(7);
        for (int k = 0; k < acts; k++) {
            randomAct(maker);
        }
        String code = "(1)";
        for (int k = 0; k < maker.count(0); k++) {
            if (maker.rect(k, 0) > 0 && fitsDrawn(maker, k) && random.nextInt(3) > 0) {
                code = maker.codeOf(k);
            }
        }
        return "drawn " + name(i) + " " + (random.nextInt(6) == 0 ? otherNumber(code) : code) + ";";
    }

    private static boolean fitsDrawn(Model maker, int k) {
        if (maker.squaresOf(k) > 24) {
            return false;
        }
        for (int s = 0; s < maker.squaresOf(k); s++) {
            if (maker.square(k, s, 2) > 9999) {
                return false;
            }
        }
        return true;
    }

    private void randomAct(Model maker) {
        int rect = random.nextInt(maker.count(0));
        switch (random.nextInt(5)) {
            case 0:
                maker.join(rect, random.nextInt(maker.count(0)), random.nextBoolean());
                break;
            case 1:
                maker.turn(rect, random.nextInt(8));
                break;
            case 2:
                maker.times(rect, 1 + random.nextInt(3));
                break;
            default:
                maker.grow(rect, random.nextBoolean());
                break;
        }
    }

    private String otherNumber(String code) {
        StringBuilder changed = new StringBuilder(code);
        int place = random.nextInt(code.length());
        if (Character.isDigit(code.charAt(place))) {
            changed.setCharAt(place, (char) ('1' + random.nextInt(9)));
        }
        return changed.toString();
    }

    private String netLine(int i) {
        int points = 2 + random.nextInt(random.nextInt(3) == 0 ? 8 : 4);
        int wires = random.nextInt(6) == 0 ? random.nextInt(15) : Math.min(14, points + random.nextInt(8));
        StringBuilder line = new StringBuilder("net " + name(i) + " " + points);
        for (int w = 0; w < wires; w++) {
            int a = random.nextInt(points);
            int near = (a + 1 + random.nextInt(2)) % points;
            int b = random.nextInt(3) > 0 && near != a ? near : (a + 1 + random.nextInt(points - 1)) % points;
            line.append(' ').append(a).append(' ').append(b);
        }
        return line.append(";").toString();
    }

    private void spoil(StringBuilder text) {
        int place = random.nextInt(text.length());
        char sign = random.nextInt(10) == 0 ? (char) random.nextInt(256) : SIGNS.charAt(random.nextInt(SIGNS.length()));
        switch (random.nextInt(4)) {
            case 0:
                text.deleteCharAt(place);
                break;
            case 1:
                text.insert(place, sign);
                break;
            case 2:
                text.setLength(place);
                break;
            default:
                text.setCharAt(place, sign);
                break;
        }
    }

    // ---- calls

    /** Mostly one that is there, at times one that is not. */
    private int some(int number) {
        int kind = random.nextInt(40);
        return kind == 0 ? -1 : kind == 1 ? number : kind == 2 ? random.nextInt() : number == 0 ? 0 : random.nextInt(number);
    }

    private void oneCall() {
        if (random.nextInt(3) == 0) {
            actCall();
        } else if (random.nextBoolean()) {
            askRect();
        } else {
            askNetOrLine();
        }
    }

    private void askRect() {
        int r = some(model.count(0));
        int k = some(Math.max(1, model.rect(r, 0)));
        int what = some(8);
        int part = some(3);
        switch (random.nextInt(9)) {
            case 0:
                same("square " + r + " " + k + " " + part, () -> cuts.square(r, k, part), () -> model.square(r, k, part));
                break;
            case 1:
                same("laid " + r, () -> cuts.laid(r), () -> model.laid(r));
                break;
            case 2:
                same("area " + r, () -> cuts.area(r), () -> model.area(r));
                break;
            case 3:
                same("least " + r, () -> cuts.least(r), () -> model.least(r));
                break;
            case 4:
                same("print " + r, () -> cuts.print(r), () -> model.print(r));
                break;
            case 5:
                int i = some(Math.max(1, model.count(5)));
                same("at " + i, () -> cuts.at(i), () -> model.at(i));
                break;
            case 6:
                same("groups " + r, () -> cuts.groups(r), () -> model.groups(r));
                break;
            default:
                same("rect " + r + " " + what, () -> cuts.rect(r, what), () -> model.rect(r, what));
                break;
        }
    }

    private void askNetOrLine() {
        int r = some(model.count(0));
        int o = some(model.count(0));
        int k = some(Math.max(1, model.rect(r, 0)));
        int line = some(Math.max(1, model.lines(r)));
        int wire = some(14);
        int point = some(9);
        int what = some(4);
        boolean lower = random.nextBoolean();
        switch (random.nextInt(8)) {
            case 0:
                same("trees " + r, () -> cuts.trees(r), () -> model.trees(r));
                break;
            case 1:
                same("current " + r + " " + wire, () -> cuts.current(r, wire), () -> model.current(r, wire));
                break;
            case 2:
                same("level " + r + " " + point, () -> cuts.level(r, point), () -> model.level(r, point));
                break;
            case 3:
                same("layings " + r, () -> cuts.layings(r), () -> model.layings(r));
                break;
            case 4:
                same("lines " + r, () -> cuts.lines(r), () -> model.lines(r));
                break;
            case 5:
                same("line " + r + " " + line + " " + what, () -> cuts.line(r, line, what), () -> model.line(r, line, what));
                break;
            case 6:
                same("side " + r + " " + k + " " + lower, () -> cuts.side(r, k, lower), () -> model.side(r, k, lower));
                break;
            default:
                same("alike " + r + " " + o, () -> cuts.alike(r, o), () -> model.alike(r, o));
                break;
        }
    }

    private void actCall() {
        int r = some(model.count(0));
        int o = some(model.count(0));
        int t = some(8);
        int f = random.nextInt(8) == 0 ? some(10001) : 1 + random.nextInt(5);
        int k = some(2);
        boolean yes = random.nextBoolean();
        switch (random.nextInt(11)) {
            case 0:
            case 1:
                same("join " + r + " " + o + " " + yes, () -> cuts.join(r, o, yes), () -> model.join(r, o, yes));
                break;
            case 2:
            case 3:
                same("grow " + r + " " + yes, () -> cuts.grow(r, yes), () -> model.grow(r, yes));
                break;
            case 4:
                same("turn " + r + " " + t, () -> cuts.turn(r, t), () -> model.turn(r, t));
                break;
            case 5:
                same("times " + r + " " + f, () -> cuts.times(r, f), () -> model.times(r, f));
                break;
            case 6:
                same("lessen " + r, () -> cuts.lessen(r), () -> model.lessen(r));
                break;
            case 7:
            case 8:
                same("undo", () -> cuts.undo(), () -> model.undo());
                break;
            case 9:
                same("keep " + k + " " + yes, () -> cuts.keep(k, yes) ? 1 : 0, () -> model.keep(k, yes) ? 1 : 0);
                break;
            default:
                int what = some(6);
                same("count " + what, () -> cuts.count(what), () -> model.count(what));
                break;
        }
    }
}
