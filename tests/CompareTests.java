import java.util.NoSuchElementException;
import java.util.Random;
import java.util.function.IntSupplier;

/** Runs of calls by chance (always the same ones), each answer compared with the slow Model's. */
public final class CompareTests {
    private static final int RUNS = 1200;
    private static final int CALLS = 500;
    private static final int THROWN = -12345678;

    private static final Check check = new Check();

    private final Random dice;
    private final int most;
    private final NoHedgeTwice x = new NoHedgeTwice();
    private final Model m = new Model();

    private CompareTests(int seed) {
        dice = new Random(seed);
        // few hedges in most runs: the model tries everything out
        most = seed % 12 == 0 ? 8 : 3 + seed % 5;
    }

    public static void main(String[] args) {
        for (int run = 0; run < RUNS; run++) {
            check.about("run " + run);
            new CompareTests(run).play();
        }
        check.close();
    }

    private void play() {
        int start = 20 + dice.nextInt(60);
        for (int k = 0; k < CALLS && m.hedges.size() <= 8; k++) {
            boolean early = k < start && m.hedges.size() < most;
            if (early ? dice.nextInt(3) == 0 : dice.nextInt(14) == 0) {
                tellLand();
            } else {
                call(dice.nextInt(40));
            }
            compareState();
        }
    }

    private void compareState() {
        for (int what = 0; what <= 9; what++) {
            check.due("count(" + what + ")", x.count(what), m.count(what));
        }
        for (int i = 0; i < m.row.size(); i++) {
            int got = i < x.count(6) ? x.row(i) : THROWN;
            check.due("row(" + i + ")", got, m.row(i));
        }
        for (int h = 0; h < m.hedges.size(); h++) {
            check.due("hedge(" + h + ", 8)", x.hedge(h, 8), m.hedge(h, 8));
        }
    }

    private static int answer(IntSupplier made) {
        try {
            return made.getAsInt();
        } catch (NoSuchElementException due) {
            return THROWN;
        }
    }

    private void same(String call, IntSupplier got, IntSupplier want) {
        check.due(call, answer(got), answer(want));
    }

    private int below(int n) {
        return dice.nextInt(n);
    }

    /** Mostly one that is there. */
    private int number(int size) {
        int r = below(12);
        return r == 0 ? size : r == 1 ? -1 : r == 2 && below(4) == 0 ? extreme() : below(Math.max(1, size));
    }

    private int extreme() {
        int[] some = {Integer.MIN_VALUE, Integer.MAX_VALUE, -2, 14, 10, 100, 1 << 20, dice.nextInt()};
        return some[below(some.length)];
    }

    private int upTo(int limit) {
        int r = below(20);
        return r == 0 ? -1 : r == 1 ? limit + 1 : r == 2 ? limit : r == 3 ? 0 : r == 4 ? extreme() : below(limit + 1);
    }

    private int aCorner() {
        return number(m.corners.size());
    }

    private int aHedge() {
        return number(m.hedges.size());
    }

    // ---- texts

    private void say(String text) {
        for (int i = 0; i < text.length(); i += 4) {
            int v = 0;
            for (int k = i; k < i + 4; k++) {
                v = v << 8 | (k < text.length() ? text.charAt(k) : below(256));
            }
            int signs = v;
            same("sign", () -> x.sign(signs), () -> m.sign(signs));
        }
        int length = below(30) == 0 ? below(84) - 2 : m.text.length() - Math.floorMod(-text.length(), 4);
        same("end(" + length + ")", () -> x.end(length) ? 1 : 0, () -> m.end(length) ? 1 : 0);
    }

    private String line(int corners) {
        if (corners < 2 || below(m.corners.size() < 5 ? 3 : 30) == 0) {
            return "@" + below(10) + below(10);
        }
        int a = below(corners);
        int b = (a + 1 + below(corners - 1)) % corners;
        if (below(40) == 0) {
            b = below(11);
        }
        int minutes = below(25) == 0 ? below(100) : 1 + below(below(2) == 0 ? 20 : 4);
        String line = "" + (char) ('a' + a) + (char) ('a' + b) + (minutes < 10 && below(8) == 0 ? "0" : "") + minutes
            + ":" + below(6) + below(6);
        line += below(2) == 0 ? "w" + below(10) : "";
        line += below(2) == 0 ? "~" + below(below(2) == 0 ? 3 : 10) : "";
        return line + (below(3) == 0 ? "g" : "");
    }

    private String landText(int lines) {
        StringBuilder text = new StringBuilder();
        int corners = m.corners.size();
        for (int k = 0; k < lines; k++) {
            String line = line(corners);
            corners += line.charAt(0) == '@' ? 1 : 0;
            text.append(k == 0 ? "" : ";").append(line);
        }
        return text.toString();
    }

    private String spoilt(String text) {
        StringBuilder b = new StringBuilder(text);
        String signs = "@;:w~g0123456789abcdefghijkA \u00ff\0";
        int at = below(b.length());
        char sign = signs.charAt(below(signs.length()));
        switch (below(4)) {
            case 0: b.setCharAt(at, sign); break;
            case 1: b.insert(at, sign); break;
            case 2: b.deleteCharAt(at); break;
            default: b.setLength(at);
        }
        return b.toString();
    }

    private void tellLand() {
        boolean room = m.hedges.size() < most && m.corners.size() < 7;
        String text = landText(room ? 1 + below(Math.min(4, most - m.hedges.size())) : 9 + below(6));
        if (!room || below(4) == 0) {
            text = spoilt(text);
        }
        if (!room) {
            // it must not come, so that the land stays small enough for the model
            text += "!";
        }
        if (room && below(5) > 0) {
            same("end(0)", () -> x.end(0) ? 1 : 0, () -> m.end(0) ? 1 : 0);
        }
        say(text);
        String told = m.text;
        same("land() of " + told, x::land, m::land);
    }

    private void tellTour() {
        int at = below(Math.max(1, m.corners.size()));
        StringBuilder text = new StringBuilder().append((char) ('a' + at));
        int steps = below(15) == 0 ? 28 + below(4) : below(7);
        for (int k = 0; k < steps; k++) {
            int h = stepFrom(at);
            if (h >= 0) {
                at = m.hedges.get(h).other(at);
                text.append((char) ('A' + h));
            }
        }
        if (m.text.length() > 0 && below(4) > 0) {
            same("end(0)", () -> x.end(0) ? 1 : 0, () -> m.end(0) ? 1 : 0);
        }
        say(below(6) == 0 ? spoilt(text.toString()) : text.toString());
        String told = m.text;
        int i = below(10) == 0 ? number(2) : below(2);
        same("tour(" + i + ") of " + told, () -> x.tour(i), () -> m.tour(i));
    }

    private int stepFrom(int at) {
        int[] fits = new int[m.hedges.size()];
        int n = 0;
        for (int h = 0; h < fits.length; h++) {
            if (m.hedges.get(h).at(at)) {
                fits[n++] = h;
            }
        }
        return n == 0 ? -1 : fits[below(n)];
    }

    // ---- calls

    private void call(int which) {
        if (which < 16) {
            callOfWalker(which);
        } else if (which < 28) {
            callOfLand(which);
        } else {
            callOfCows(which);
        }
    }

    private void callOfWalker(int which) {
        int h = aHedge();
        int c = aCorner();
        int n = below(3) == 0 ? upTo(9999) : below(70);
        int wait = below(2) == 0 ? upTo(99) : below(12);
        int days = below(3) == 0 ? upTo(60) : below(4);
        switch (which) {
            case 0: case 1: case 2: case 3:
                same("walk(" + h + ")", () -> x.walk(h), () -> m.walk(h));
                break;
            case 4: same("rest(" + n + ")", () -> x.rest(n), () -> m.rest(n)); break;
            case 5: case 6: same("undo()", x::undo, m::undo); break;
            case 7: same("go(" + c + ")", () -> x.go(c) ? 1 : 0, () -> m.go(c) ? 1 : 0); break;
            case 8: same("can()", x::can, m::can); break;
            case 9: case 10: tellTour(); break;
            case 11: same("look", () -> x.look(c), () -> m.look(c)); break;
            case 12: same("look", () -> x.look(days), () -> m.look(days)); break;
            case 13: same("meets(" + wait + ")", () -> x.meets(wait), () -> m.meets(wait)); break;
            case 14: same("apart()", x::apart, m::apart); break;
            default: same("season(" + days + ")", () -> x.season(days), () -> m.season(days));
        }
    }

    private void callOfLand(int which) {
        int h = aHedge();
        int c = aCorner();
        int d = aCorner();
        int n = below(3) == 0 ? upTo(9999) : below(60);
        int v = below(2) == 0 ? upTo(200) : below(30);
        switch (which) {
            case 16: same("odd()", x::odd, m::odd); break;
            case 17: same("men()", x::men, m::men); break;
            case 18: same("trail(" + c + ")", () -> x.trail(c), () -> m.trail(c)); break;
            case 19: same("round()", x::round, m::round); break;
            case 20: same("closed()", x::closed, m::closed); break;
            case 21: same("open()", x::open, m::open); break;
            case 22: same("most(" + c + ", " + n + ")", () -> x.most(c, n), () -> m.most(c, n)); break;
            case 23: same("home(" + c + ", " + n + ")", () -> x.home(c, n), () -> m.home(c, n)); break;
            case 24: same("soon(" + c + ", " + v + ")", () -> x.soon(c, v), () -> m.soon(c, v)); break;
            case 25: same("bridges()", x::bridges, m::bridges); break;
            case 26: same("reach(" + h + ")", () -> x.reach(h), () -> m.reach(h)); break;
            default: same("gates(" + c + ")", () -> x.gates(c), () -> m.gates(c));
        }
        same("grass", () -> x.grass(c, d), () -> m.grass(c, d));
    }

    private void callOfCows(int which) {
        int h = aHedge();
        int what = below(11) - 1;
        int cows = below(10) == 0 ? upTo(6) : 1 + below(5);
        int i = number(3);
        switch (which) {
            case 28: case 29: same("heard", () -> x.heard(h, cows), () -> m.heard(h, cows)); break;
            case 30: same("forget()", x::forget, m::forget); break;
            case 31: same("lands()", x::lands, m::lands); break;
            case 32: same("sure()", x::sure, m::sure); break;
            case 33: same("next()", x::next, m::next); break;
            case 34: same("lies()", x::lies, m::lies); break;
            case 35: same("quarrel()", x::quarrel, m::quarrel); break;
            case 36: same("keep(" + i + ")", () -> x.keep(i) ? 1 : 0, () -> m.keep(i) ? 1 : 0); break;
            case 37: same("again(" + i + ")", () -> x.again(i) ? 1 : 0, () -> m.again(i) ? 1 : 0); break;
            case 38: changeLand(); break;
            default: same("hedge(" + h + ", " + what + ")", () -> x.hedge(h, what), () -> m.hedge(h, what));
        }
    }

    private void changeLand() {
        int what = below(8) == 0 ? extreme() : below(4);
        int h = aHedge();
        int v = what == 2 ? below(3) == 0 ? upTo(99) : below(4) : what == 3 ? upTo(9999) : upTo(9);
        if (below(3) > 0) {
            same("set(" + what + ", " + h + ", " + v + ")", () -> x.set(what, h, v), () -> m.set(what, h, v));
            return;
        }
        int n = below(12) == 0 ? extreme() : below(17) - 1;
        int f = below(3) == 0 ? dice.nextInt() : below(300);
        int step = below(3) == 0 ? dice.nextInt() : below(300) - 150;
        String call = "sheet(" + what + ", " + n + ", " + f + ", " + step + ")";
        same(call, () -> x.sheet(what, n, f, step), () -> m.sheet(what, n, f, step));
        for (int k = 0; k < m.hedges.size(); k++) {
            int hedge = k;
            same("hedge(" + k + ", 2) behind " + call, () -> x.hedge(hedge, 2), () -> m.hedge(hedge, 2));
        }
    }
}
