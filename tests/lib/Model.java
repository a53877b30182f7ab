import java.util.ArrayDeque;
import java.util.ArrayList;
import java.util.Arrays;
import java.util.Deque;
import java.util.HashSet;
import java.util.List;
import java.util.NoSuchElementException;
import java.util.Set;
import java.util.TreeMap;
import java.util.regex.Matcher;
import java.util.regex.Pattern;

/**
 * The document once more, by trying everything out: slow, and written on other
 * ways than the program, to compare it with.
 */
final class Model {
    static final class Hedge {
        int a, b, minutes, left, right, worth, wind;
        boolean gate;

        int from(int c) {
            return c == a ? minutes : minutes + wind;
        }

        int other(int c) {
            return c == a ? b : a;
        }

        boolean at(int c) {
            return a == c || b == c;
        }
    }

    static final class State {
        int corner, time;
        TreeMap<Integer, Integer> walked = new TreeMap<>();

        State copy() {
            State s = new State();
            s.corner = corner;
            s.time = time;
            s.walked.putAll(walked);
            return s;
        }
    }

    private static final String LINE = "(@[0-9]{2}|[a-j][a-j][0-9]{1,2}:[0-5][0-5](w[0-9])?(~[0-9])?g?)";
    private static final Pattern TEXT = Pattern.compile(LINE + "(;" + LINE + ")*", Pattern.DOTALL);

    private static final List<String> WAYS = allWays();

    final List<int[]> corners = new ArrayList<>();
    final List<Hedge> hedges = new ArrayList<>();
    String text = "";
    int nights = 9;
    int frost = 600;
    State now = new State();
    final Deque<State> before = new ArrayDeque<>();
    final State[] kept = new State[3];
    final String[] tours = new String[2];
    final List<int[]> hearings = new ArrayList<>();
    List<Integer> row = new ArrayList<>();

    private boolean corner(int c) {
        return c >= 0 && c < corners.size();
    }

    private boolean hedge(int h) {
        return h >= 0 && h < hedges.size();
    }

    private void tell(Integer... numbers) {
        row = new ArrayList<>(List.of(numbers));
    }

    // ---- the land

    int sign(int v) {
        if (text.length() + 4 > 80) {
            return -1;
        }
        for (int k = 3; k >= 0; k--) {
            text += (char) ((v >>> 8 * k) & 255);
        }
        return text.length();
    }

    boolean end(int n) {
        if (n < 0 || n > text.length()) {
            return false;
        }
        text = text.substring(0, n);
        return true;
    }

    int land() {
        String told = text;
        text = "";
        if (told.isEmpty()) {
            return 0;
        }
        int bad = Math.min(firstOutOfForm(told), firstWithoutSense(told));
        if (bad <= told.length() && !(bad == told.length() && TEXT.matcher(told).matches())) {
            return -1 - bad;
        }
        String[] lines = told.split(";");
        for (String line : lines) {
            if (line.charAt(0) == '@') {
                corners.add(new int[] {line.charAt(1) - '0', line.charAt(2) - '0'});
            } else {
                hedges.add(hedgeOf(line));
            }
        }
        before.clear();
        return lines.length;
    }

    /** The length, at most 76, if it could go on or end. */
    private static int firstOutOfForm(String told) {
        int most = Math.min(told.length(), 76);
        for (int p = 0; p < most; p++) {
            Matcher m = TEXT.matcher(told.substring(0, p + 1));
            if (!m.matches() && !m.hitEnd()) {
                return p;
            }
        }
        return most;
    }

    private int firstWithoutSense(String told) {
        int c = corners.size();
        int h = hedges.size();
        int limit = Math.min(76, firstOutOfForm(told));
        for (int s = 0; s < limit; s = nextLine(told, s, limit)) {
            int end = nextLine(told, s, limit) - 1;
            char first = told.charAt(s);
            if (first == '@' ? c == 10 : h == 14 || first - 'a' >= c) {
                return s;
            }
            if (first == '@') {
                c++;
                continue;
            }
            h++;
            if (s + 1 < limit && (told.charAt(s + 1) == first || told.charAt(s + 1) - 'a' >= c)) {
                return s + 1;
            }
            int digits = 0;
            int v = 0;
            while (digits < 2 && s + 2 + digits < Math.min(limit, end) && Character.isDigit(told.charAt(s + 2 + digits))) {
                v = 10 * v + told.charAt(s + 2 + digits) - '0';
                digits++;
            }
            if (digits > 0 && (v < 1 || v > 20)) {
                return s + 1 + digits;
            }
        }
        return 1000;
    }

    private static int nextLine(String told, int s, int limit) {
        int at = told.indexOf(';', s);
        return at < 0 || at >= limit ? limit + 1 : at + 1;
    }

    private static Hedge hedgeOf(String line) {
        Hedge h = new Hedge();
        int colon = line.indexOf(':');
        h.a = line.charAt(0) - 'a';
        h.b = line.charAt(1) - 'a';
        h.minutes = Integer.parseInt(line.substring(2, colon));
        h.left = line.charAt(colon + 1) - '0';
        h.right = line.charAt(colon + 2) - '0';
        int w = line.indexOf('w');
        int t = line.indexOf('~');
        h.worth = w < 0 ? 1 : line.charAt(w + 1) - '0';
        h.wind = t < 0 ? 0 : line.charAt(t + 1) - '0';
        h.gate = line.endsWith("g");
        return h;
    }

    int hedge(int h, int what) {
        if (!hedge(h) || what < 0 || what > 8) {
            throw new NoSuchElementException();
        }
        Hedge g = hedges.get(h);
        return new int[] {g.a, g.b, g.minutes, g.left, g.right, g.worth, g.wind, g.gate ? 1 : 0,
            fresh(now, h) ? 1 : 0}[what];
    }

    int grass(int a, int b) {
        return corner(a) && corner(b) ? over(a, b) : -1;
    }

    private int over(int a, int b) {
        int dx = corners.get(a)[0] - corners.get(b)[0];
        int dy = corners.get(a)[1] - corners.get(b)[1];
        return 2 * Math.abs(dx) + 2 * Math.abs(dy);
    }

    int set(int what, int h, int v) {
        int most = what == 0 || what == 1 ? 9 : what == 2 ? 99 : what == 3 ? 9999 : -1;
        if (v < 0 || v > most || (what < 2 && !hedge(h))) {
            return -1;
        }
        int was;
        switch (what) {
            case 0: was = hedges.get(h).worth; hedges.get(h).worth = v; break;
            case 1: was = hedges.get(h).wind; hedges.get(h).wind = v; break;
            case 2: was = nights; nights = v; break;
            default: was = frost; frost = v;
        }
        return was;
    }

    int sheet(int kind, int n, int f, int step) {
        if (kind < 0 || kind > 3 || n > 14) {
            return -1;
        }
        if (kind < 3 && n < 0) {
            return -2;
        }
        int v = f;
        int sum = 0;
        for (int h = 0; h < hedges.size(); h++) {
            int entry = kind == 0 ? (byte) v : kind == 1 ? (short) v : v;
            hedges.get(h).minutes = kind == 3 || h >= n ? 1 : entry < 1 ? 1 : entry > 20 ? 20 : entry;
            sum += hedges.get(h).minutes;
            v += step;
        }
        return kind == 3 ? -3 : sum;
    }

    // ---- the walker

    private boolean fresh(State s, int h) {
        return !s.walked.containsKey(h) || s.time / 60 >= s.walked.get(h) + nights;
    }

    private int why(State s, int h) {
        Hedge g = hedges.get(h);
        return !g.at(s.corner) ? -2 : !fresh(s, h) ? -3 : g.gate && s.time % 60 >= 40 ? -4
            : s.time + g.from(s.corner) > frost ? -5 : 0;
    }

    private void move(State s, int h) {
        Hedge g = hedges.get(h);
        s.walked.put(h, s.time / 60);
        s.time += g.from(s.corner);
        s.corner = g.other(s.corner);
    }

    int walk(int h) {
        if (!hedge(h)) {
            return -1;
        }
        int why = why(now, h);
        if (why != 0) {
            return why;
        }
        before.addLast(now.copy());
        if (before.size() > 30) {
            before.removeFirst();
        }
        int start = now.time;
        move(now, h);
        return now.time - start;
    }

    int rest(int n) {
        if (n < 0 || n > 9999) {
            return -1;
        }
        if (now.time + n > frost) {
            return -5;
        }
        before.clear();
        now.time += n;
        return now.time;
    }

    int undo() {
        if (before.isEmpty()) {
            return -1;
        }
        now = before.removeLast();
        return before.size();
    }

    boolean go(int c) {
        if (!corner(c)) {
            return false;
        }
        before.clear();
        now = new State();
        now.corner = c;
        return true;
    }

    int can() {
        int bits = 0;
        for (int h = 0; h < hedges.size(); h++) {
            bits += why(now, h) == 0 ? 1 << h : 0;
        }
        return bits;
    }

    int tour(int i) {
        String told = text;
        text = "";
        if (i != 0 && i != 1) {
            return -100;
        }
        int at = -1;
        int minutes = 0;
        int bits = 0;
        for (int p = 0; p < told.length(); p++) {
            int c = told.charAt(p) - 'a';
            int h = told.charAt(p) - 'A';
            if (p == 30 || (p == 0 ? !corner(c) : !hedge(h) || !hedges.get(h).at(at))) {
                return -1 - p;
            }
            if (p == 0) {
                at = c;
            } else {
                minutes += hedges.get(h).from(at);
                at = hedges.get(h).other(at);
                bits |= 1 << h;
            }
        }
        if (at < 0) {
            return -1;
        }
        tours[i] = told;
        tell(at, bits);
        return minutes;
    }

    int look(int i) {
        if (i != 0 && i != 1) {
            return -1;
        }
        if (tours[i] == null) {
            return -3;
        }
        State s = now.copy();
        s.corner = tours[i].charAt(0) - 'a';
        int worths = 0;
        for (int k = 1; k < tours[i].length(); k++) {
            int h = tours[i].charAt(k) - 'A';
            int why = why(s, h);
            if (why != 0) {
                tell(why, s.time - now.time, worths);
                return k - 1;
            }
            move(s, h);
            worths += hedges.get(h).worth;
        }
        tell(0, s.time - now.time, worths);
        return -2;
    }

    /** At which CORNER one is at each minute, -1 in a HEDGE. */
    private int[] minutesOf(int i, int wait) {
        int[] where = new int[1200];
        Arrays.fill(where, -1);
        int at = tours[i].charAt(0) - 'a';
        int t = wait;
        Arrays.fill(where, 0, wait + 1, at);
        for (int k = 1; k < tours[i].length(); k++) {
            Hedge g = hedges.get(tours[i].charAt(k) - 'A');
            t += g.from(at);
            at = g.other(at);
            where[t] = at;
        }
        Arrays.fill(where, t, where.length, at);
        return where;
    }

    private int firstMinute(int wait) {
        int[] one = minutesOf(0, 0);
        int[] other = minutesOf(1, wait);
        for (int t = 0; t < one.length; t++) {
            if (one[t] >= 0 && one[t] == other[t]) {
                return t;
            }
        }
        return -2;
    }

    int meets(int wait) {
        if (wait < 0 || wait > 99) {
            return -1;
        }
        if (tours[0] == null || tours[1] == null) {
            return -3;
        }
        int t = firstMinute(wait);
        if (t >= 0) {
            tell(minutesOf(0, 0)[t]);
        }
        return t;
    }

    int apart() {
        if (tours[0] == null || tours[1] == null) {
            return -3;
        }
        for (int wait = 0; wait < 100; wait++) {
            if (firstMinute(wait) == -2) {
                return wait;
            }
        }
        return -2;
    }

    private boolean dawn() {
        do {
            if (now.time >= frost) {
                return false;
            }
            now.time++;
        } while (now.time % 60 != 0);
        return true;
    }

    int season(int n) {
        if (n < 0 || n > 60) {
            return -1;
        }
        before.clear();
        int walks = 0;
        int worths = 0;
        boolean ended = now.time % 60 >= 40 && !dawn();
        for (int d = 0; d < n && !ended; d++) {
            while (now.time % 60 < 40 && can() != 0) {
                int best = -1;
                for (int h = hedges.size() - 1; h >= 0; h--) {
                    if (why(now, h) == 0 && (best < 0 || hedges.get(h).worth >= hedges.get(best).worth)) {
                        best = h;
                    }
                }
                move(now, best);
                walks++;
                worths += hedges.get(best).worth;
            }
            ended = !dawn();
        }
        tell(worths, corners.isEmpty() ? -1 : now.corner);
        return walks;
    }

    // ---- rounds

    private int degree(int c, List<int[]> edges) {
        int n = 0;
        for (int[] e : edges) {
            n += (e[0] == c ? 1 : 0) + (e[1] == c ? 1 : 0);
        }
        return n;
    }

    private List<int[]> edges() {
        List<int[]> edges = new ArrayList<>();
        for (Hedge h : hedges) {
            edges.add(new int[] {h.a, h.b});
        }
        return edges;
    }

    private int oddBits(List<int[]> edges) {
        int bits = 0;
        for (int c = 0; c < corners.size(); c++) {
            bits |= degree(c, edges) % 2 << c;
        }
        return bits;
    }

    private int[] partsOf(List<int[]> edges) {
        int[] name = new int[10];
        for (int c = 0; c < 10; c++) {
            name[c] = c;
        }
        for (int[] e : edges) {
            int from = name[e[0]];
            int to = name[e[1]];
            for (int c = 0; c < 10; c++) {
                name[c] = name[c] == from ? to : name[c];
            }
        }
        return name;
    }

    private int partsWithHedges() {
        int[] name = partsOf(edges());
        int bits = 0;
        for (Hedge h : hedges) {
            bits |= 1 << name[h.a];
        }
        return Integer.bitCount(bits);
    }

    int odd() {
        int bits = oddBits(edges());
        tell(bits);
        return Integer.bitCount(bits);
    }

    int men() {
        int[] name = partsOf(edges());
        int odd = oddBits(edges());
        int men = 0;
        for (int p = 0; p < 10; p++) {
            int ends = 0;
            boolean any = false;
            for (int c = 0; c < corners.size(); c++) {
                ends += name[c] == p ? odd >> c & 1 : 0;
                any |= name[c] == p && degree(c, edges()) > 0;
            }
            men += any ? Math.max(1, ends / 2) : 0;
        }
        tell(partsWithHedges());
        return men;
    }

    int trail(int c) {
        if (!corner(c)) {
            return -1;
        }
        List<Integer> found = new ArrayList<>();
        int minutes = trailFrom(c, 0, 0, found);
        if (minutes >= 0) {
            row = found;
        }
        return minutes;
    }

    private int trailFrom(int c, int walked, int minutes, List<Integer> found) {
        if (Integer.bitCount(walked) == hedges.size()) {
            return minutes;
        }
        for (int h = 0; h < hedges.size(); h++) {
            Hedge g = hedges.get(h);
            if ((walked >> h & 1) == 0 && g.at(c)) {
                found.add(h);
                int all = trailFrom(g.other(c), walked | 1 << h, minutes + g.from(c), found);
                if (all >= 0) {
                    return all;
                }
                found.remove(found.size() - 1);
            }
        }
        return -2;
    }

    int round() {
        if (hedges.isEmpty()) {
            tell(0);
            return 0;
        }
        int[] best = {Integer.MAX_VALUE, 0};
        int start = hedges.get(0).a;
        roundFrom(start, start, 0, 0, 0, best);
        if (best[0] == Integer.MAX_VALUE) {
            return -2;
        }
        tell(best[1]);
        return best[0];
    }

    private void roundFrom(int start, int c, int walked, int turned, int minutes, int[] best) {
        if (Integer.bitCount(walked) == hedges.size()) {
            if (c == start && (minutes < best[0] || (minutes == best[0] && turned < best[1]))) {
                best[0] = minutes;
                best[1] = turned;
            }
            return;
        }
        for (int h = 0; h < hedges.size(); h++) {
            Hedge g = hedges.get(h);
            if ((walked >> h & 1) == 0 && g.at(c)) {
                int turn = c == g.a ? turned : turned | 1 << h;
                roundFrom(start, g.other(c), walked | 1 << h, turn, minutes + g.from(c), best);
            }
        }
    }

    private static int compareRows(List<Integer> a, List<Integer> b) {
        for (int k = 0; k < Math.min(a.size(), b.size()); k++) {
            if (!a.get(k).equals(b.get(k))) {
                return a.get(k) - b.get(k);
            }
        }
        return a.size() - b.size();
    }

    private int bestGrass;
    private List<Integer> bestPairs;

    private void pairUp(int c, int used, int grass, List<Integer> pairs, int oddLeft) {
        if (c == corners.size()) {
            List<int[]> all = edges();
            for (int k = 0; k < pairs.size(); k += 2) {
                all.add(new int[] {pairs.get(k), pairs.get(k + 1)});
            }
            int odd = oddBits(all);
            boolean fits = Integer.bitCount(odd) == oddLeft && (odd & used) == 0;
            boolean better = bestPairs == null || grass < bestGrass
                || (grass == bestGrass && compareRows(pairs, bestPairs) < 0);
            if (fits && better) {
                bestGrass = grass;
                bestPairs = new ArrayList<>(pairs);
            }
            return;
        }
        pairUp(c + 1, used, grass, pairs, oddLeft);
        for (int d = c + 1; (used >> c & 1) == 0 && d < corners.size(); d++) {
            if ((used >> d & 1) == 0) {
                pairs.add(c);
                pairs.add(d);
                pairUp(c + 1, used | 1 << c | 1 << d, grass + over(c, d), pairs, oddLeft);
                pairs.remove(pairs.size() - 1);
                pairs.remove(pairs.size() - 1);
            }
        }
    }

    private int grassRound(int oddLeft) {
        if (partsWithHedges() > 1) {
            return -2;
        }
        bestPairs = null;
        pairUp(0, 0, 0, new ArrayList<>(), oddLeft);
        row = bestPairs;
        return bestGrass;
    }

    int closed() {
        return grassRound(0);
    }

    int open() {
        return grassRound(oddBits(edges()) == 0 ? 0 : 2);
    }

    // ---- by the frost

    /** All walks from a corner, shown to a judge of what is best: {worth, minutes, bits}. */
    private interface Judge {
        boolean better(int[] walk, int[] best);
    }

    private int[] bestWalk(int c, int limit, int home, int wish, Judge judge) {
        int[][] best = {null};
        tryWalks(c, 0, 0, 0, new int[] {limit, home, wish}, judge, best);
        return best[0];
    }

    private void tryWalks(int c, int bits, int minutes, int worth, int[] bounds, Judge judge, int[][] best) {
        if (minutes > bounds[0]) {
            return;
        }
        int[] walk = {worth, minutes, bits};
        if ((bounds[1] < 0 || bounds[1] == c) && worth >= bounds[2]
                && (best[0] == null || judge.better(walk, best[0]))) {
            best[0] = walk;
        }
        for (int h = 0; h < hedges.size(); h++) {
            Hedge g = hedges.get(h);
            if ((bits >> h & 1) == 0 && g.at(c)) {
                tryWalks(g.other(c), bits | 1 << h, minutes + g.from(c), worth + g.worth, bounds, judge, best);
            }
        }
    }

    private int mostOf(int c, int minutes, int home) {
        if (!corner(c) || minutes < 0 || minutes > 9999) {
            return -1;
        }
        int[] best = bestWalk(c, minutes, home, 0, (w, b) -> w[0] != b[0] ? w[0] > b[0]
            : w[1] != b[1] ? w[1] < b[1] : w[2] < b[2]);
        tell(best[2], best[1]);
        return best[0];
    }

    int most(int c, int minutes) {
        return mostOf(c, minutes, -1);
    }

    int home(int c, int minutes) {
        return mostOf(c, minutes, c);
    }

    int soon(int c, int v) {
        if (!corner(c) || v < 0 || v > 200) {
            return -1;
        }
        int[] best = bestWalk(c, 100000, -1, v, (w, b) -> w[1] != b[1] ? w[1] < b[1] : w[2] < b[2]);
        if (best == null) {
            return -2;
        }
        tell(best[2]);
        return best[1];
    }

    // ---- what is cut off

    int bridges() {
        int bits = 0;
        for (int h = 0; h < hedges.size(); h++) {
            List<int[]> others = edges();
            others.remove(h);
            int[] name = partsOf(others);
            bits |= name[hedges.get(h).a] != name[hedges.get(h).b] ? 1 << h : 0;
        }
        return bits;
    }

    int reach(int h) {
        if (corners.isEmpty() || (h != -1 && !hedge(h))) {
            throw new NoSuchElementException();
        }
        List<int[]> some = new ArrayList<>();
        for (int k = 0; k < hedges.size(); k++) {
            if (k != h && fresh(now, k)) {
                some.add(new int[] {hedges.get(k).a, hedges.get(k).b});
            }
        }
        int[] name = partsOf(some);
        int bits = 0;
        for (int c = 0; c < corners.size(); c++) {
            bits |= name[c] == name[now.corner] ? 1 << c : 0;
        }
        return bits;
    }

    private int bestThrough;
    private List<Integer> bestOrder;

    int gates(int c) {
        if (!corner(c)) {
            return -1;
        }
        bestOrder = null;
        through(c, 0, new ArrayList<>());
        if (bestOrder == null) {
            return -2;
        }
        row = bestOrder;
        return bestThrough;
    }

    /** The fewest minutes to all corners by hedges that are no gates. */
    private int[] openWays(int c) {
        int[] best = new int[corners.size()];
        Arrays.fill(best, 1 << 20);
        best[c] = 0;
        for (int turn = 0; turn < corners.size(); turn++) {
            for (Hedge h : hedges) {
                if (!h.gate) {
                    best[h.b] = Math.min(best[h.b], best[h.a] + h.from(h.a));
                    best[h.a] = Math.min(best[h.a], best[h.b] + h.from(h.b));
                }
            }
        }
        return best;
    }

    private void through(int c, int minutes, List<Integer> order) {
        int left = 0;
        int[] ways = openWays(c);
        for (int h = 0; h < hedges.size(); h++) {
            Hedge g = hedges.get(h);
            if (!g.gate || order.contains(h)) {
                continue;
            }
            left++;
            for (int from : new int[] {g.a, g.b}) {
                if (ways[from] < 1 << 20) {
                    order.add(h);
                    through(g.other(from), minutes + ways[from] + g.from(from), order);
                    order.remove(order.size() - 1);
                }
            }
        }
        boolean better = bestOrder == null || minutes < bestThrough
            || (minutes == bestThrough && compareRows(order, bestOrder) < 0);
        if (left == 0 && better) {
            bestThrough = minutes;
            bestOrder = new ArrayList<>(order);
        }
    }

    // ---- what is heard

    int heard(int h, int cows) {
        if (!hedge(h) || cows < 0 || cows > 6 || hearings.size() == 12) {
            return -1;
        }
        hearings.add(new int[] {h, cows});
        return hearings.size();
    }

    int forget() {
        if (hearings.isEmpty()) {
            return -1;
        }
        hearings.remove(hearings.size() - 1);
        return hearings.size();
    }

    /** All ways as texts of six digits, in order. */
    private static List<String> allWays() {
        List<String> ways = new ArrayList<>(List.of(""));
        for (int field = 0; field < 6; field++) {
            List<String> longer = new ArrayList<>();
            for (String way : ways) {
                for (int n = 0; n <= 3; n++) {
                    longer.add(way + n);
                }
            }
            ways = longer;
        }
        return ways;
    }

    private List<String> waysFor(List<int[]> some) {
        List<String> ways = new ArrayList<>(WAYS);
        for (int[] one : some) {
            ways.removeIf(way -> sumOver(one[0], way) != one[1]);
        }
        return ways;
    }

    private int sumOver(int h, String way) {
        return way.charAt(hedges.get(h).left) - '0' + way.charAt(hedges.get(h).right) - '0';
    }

    int lands() {
        List<String> ways = waysFor(hearings);
        tell();
        if (!ways.isEmpty()) {
            tell(Integer.parseInt(ways.get(0)));
        }
        return ways.size();
    }

    int sure() {
        List<String> ways = waysFor(hearings);
        tell();
        int bits = 0;
        for (int f = 0; f < 6 && !ways.isEmpty(); f++) {
            int field = f;
            if (ways.stream().map(w -> w.charAt(field)).distinct().count() == 1) {
                bits |= 1 << f;
                row.add(ways.get(0).charAt(f) - '0');
            }
        }
        return bits;
    }

    int next() {
        List<String> ways = waysFor(hearings);
        if (ways.isEmpty() || hedges.isEmpty()) {
            return -2;
        }
        int best = -1;
        long least = 0;
        for (int h = 0; h < hedges.size(); h++) {
            long worst = 0;
            for (int n = 0; n <= 6; n++) {
                int hedge = h;
                int sum = n;
                worst = Math.max(worst, ways.stream().filter(w -> sumOver(hedge, w) == sum).count());
            }
            if (best < 0 || worst < least) {
                best = h;
                least = worst;
            }
        }
        tell((int) least);
        return best;
    }

    int lies() {
        Set<Integer> lies = new HashSet<>();
        for (String way : WAYS) {
            int bits = 0;
            for (int k = 0; k < hearings.size(); k++) {
                bits += sumOver(hearings.get(k)[0], way) == hearings.get(k)[1] ? 0 : 1 << k;
            }
            lies.add(bits);
        }
        int best = -1;
        for (int some = 0; some < 1 << hearings.size(); some++) {
            int told = some;
            boolean fewer = best < 0 || Integer.bitCount(some) < Integer.bitCount(best);
            if (fewer && lies.stream().anyMatch(bits -> (bits & ~told) == 0)) {
                best = some;
            }
        }
        tell(best);
        return Integer.bitCount(best);
    }

    int quarrel() {
        for (int k = 0; k < hearings.size(); k++) {
            if (waysFor(hearings.subList(0, k + 1)).isEmpty()) {
                int first = -1;
                for (int j = k - 1; j >= 0; j--) {
                    first = waysFor(List.of(hearings.get(j), hearings.get(k))).isEmpty() ? j : first;
                }
                tell(first);
                return k;
            }
        }
        return -2;
    }

    // ---- kept

    boolean keep(int i) {
        if (i < 0 || i > 2) {
            return false;
        }
        kept[i] = now.copy();
        return true;
    }

    boolean again(int i) {
        if (i < 0 || i > 2 || kept[i] == null) {
            return false;
        }
        before.clear();
        now = kept[i].copy();
        return true;
    }

    int count(int what) {
        int[] all = {corners.size(), hedges.size(), corners.isEmpty() ? -1 : now.corner, now.time, before.size(),
            hearings.size(), row.size(), text.length(), nights, frost};
        return what < 0 || what > 9 ? -1 : all[what];
    }

    int row(int i) {
        if (i < 0 || i >= row.size()) {
            throw new NoSuchElementException();
        }
        return row.get(i);
    }
}
