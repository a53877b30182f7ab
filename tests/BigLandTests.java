import java.util.ArrayList;
import java.util.HashMap;
import java.util.List;
import java.util.Map;
import java.util.Random;
import java.util.TreeMap;

/** Lands of up to 10 CORNERS and 14 HEDGES, where the Model can't try all walks: walks by sets of HEDGES here. */
public final class BigLandTests {
    private static final int RUNS = 140;

    private static final Check check = new Check();

    private final Random dice;
    private final NoHedgeTwice x = new NoHedgeTwice();
    private final Model m = new Model();

    private BigLandTests(int seed) {
        dice = new Random(seed);
    }

    public static void main(String[] args) {
        for (int run = 0; run < RUNS; run++) {
            check.about("big land " + run);
            new BigLandTests(run).play(run);
        }
        check.close();
    }

    private void play(int run) {
        int corners = run % 7 == 0 ? 2 : 3 + run % 8;
        int hedges = run % 5 == 0 ? 8 + run % 7 : 14;
        StringBuilder text = new StringBuilder();
        for (int c = 0; c < corners; c++) {
            text.append(c == 0 ? "" : ";").append("@").append(dice.nextInt(10)).append(dice.nextInt(run % 3 == 0 ? 2 : 10));
        }
        tell(text.toString());
        // a walk that closes, in some: so that there are rounds
        int at = 0;
        for (int h = 0; h < hedges; h++) {
            int to = run % 2 == 0 && h == hedges - 1 ? 0 : (at + 1 + dice.nextInt(corners - 1)) % corners;
            if (to == at) {
                break;
            }
            tell(hedge(at, to, run));
            at = run % 4 == 3 ? dice.nextInt(corners) : to;
        }
        compareByModel();
        for (int c = 0; c < corners; c += 1 + dice.nextInt(3)) {
            compareWalks(c);
            compareGates(c);
        }
        compareRound();
    }

    private String hedge(int a, int b, int run) {
        boolean turn = dice.nextBoolean();
        String ends = "" + (char) ('a' + (turn ? a : b)) + (char) ('a' + (turn ? b : a));
        int minutes = run % 3 == 0 ? 1 + dice.nextInt(20) : 1 + dice.nextInt(3);
        int wind = run % 3 == 1 ? dice.nextInt(10) : dice.nextInt(3);
        boolean gate = dice.nextInt(14) < 4 + run % 11;
        return ends + minutes + ":" + dice.nextInt(6) + dice.nextInt(6) + "w" + dice.nextInt(10) + "~" + wind
            + (gate ? "g" : "");
    }

    private void tell(String text) {
        Check.say(x, text);
        check.due("land() of " + text, x.land(), tellModel(text));
    }

    private int tellModel(String text) {
        m.text = text;
        return m.land();
    }

    private void rowsAreSame() {
        check.row(x, m.row.stream().mapToInt(Integer::intValue).toArray());
    }

    private void compareByModel() {
        check.due("odd()", x.odd(), m.odd());
        rowsAreSame();
        check.due("men()", x.men(), m.men());
        rowsAreSame();
        check.due("closed()", x.closed(), m.closed());
        rowsAreSame();
        check.due("open()", x.open(), m.open());
        rowsAreSame();
        check.due("bridges()", x.bridges(), m.bridges());
        for (int k = 0; k < 14; k++) {
            int h = dice.nextInt(m.hedges.size());
            int cows = dice.nextInt(7);
            check.due("heard()", x.heard(h, cows), m.heard(h, cows));
            check.due("walk()", x.walk(h), m.walk(h));
            check.due("reach()", x.reach(h), m.reach(h));
        }
        check.due("lies()", x.lies(), m.lies());
        rowsAreSame();
        for (int k = 0; k < 12; k++) {
            check.due("quarrel()", x.quarrel(), m.quarrel());
            rowsAreSame();
            check.due("next()", x.next(), m.next());
            rowsAreSame();
            check.due("forget()", x.forget(), m.forget());
        }
    }

    /** Of each set of hedges walked, and the corner then, the fewest minutes. */
    private Map<Integer, Integer> walksFrom(int c) {
        TreeMap<Integer, Integer> fewest = new TreeMap<>();
        fewest.put(c, 0);
        // a later set has a greater number
        for (Map.Entry<Integer, Integer> e = fewest.firstEntry(); e != null; e = fewest.higherEntry(e.getKey())) {
            int at = e.getKey() % 16;
            int set = e.getKey() / 16;
            for (int h = 0; h < m.hedges.size(); h++) {
                Model.Hedge g = m.hedges.get(h);
                if ((set >> h & 1) == 0 && g.at(at)) {
                    fewest.merge((set | 1 << h) * 16 + g.other(at), e.getValue() + g.from(at), Math::min);
                }
            }
        }
        return fewest;
    }

    private int worth(int set) {
        int sum = 0;
        for (int h = 0; h < m.hedges.size(); h++) {
            sum += (set >> h & 1) * m.hedges.get(h).worth;
        }
        return sum;
    }

    private void compareWalks(int c) {
        Map<Integer, Integer> walks = walksFrom(c);
        compareTrail(c, walks);
        for (int turn = 0; turn < 6; turn++) {
            int limit = dice.nextInt(turn < 3 ? 40 : 250);
            int[] most = {0, 0, 0};
            int[] home = {0, 0, 0};
            for (Map.Entry<Integer, Integer> e : walks.entrySet()) {
                int set = e.getKey() / 16;
                int[] walk = {worth(set), set, e.getValue()};
                if (walk[2] <= limit) {
                    most = better(walk, most) ? walk : most;
                    home = e.getKey() % 16 == c && better(walk, home) ? walk : home;
                }
            }
            check.due("most(" + c + ", " + limit + ")", x.most(c, limit), most[0]);
            check.row(x, most[1], most[2]);
            check.due("home(" + c + ", " + limit + ")", x.home(c, limit), home[0]);
            check.row(x, home[1], home[2]);
            compareSoon(c, turn * 11 + dice.nextInt(20), walks);
        }
    }

    private static boolean better(int[] walk, int[] best) {
        return walk[0] != best[0] ? walk[0] > best[0] : walk[2] != best[2] ? walk[2] < best[2] : walk[1] < best[1];
    }

    private void compareSoon(int c, int v, Map<Integer, Integer> walks) {
        int least = -2;
        int bits = 0;
        for (Map.Entry<Integer, Integer> e : walks.entrySet()) {
            int set = e.getKey() / 16;
            if (worth(set) >= v && (least < 0 || e.getValue() < least)) {
                least = e.getValue();
                bits = set;
            }
        }
        check.due("soon(" + c + ", " + v + ")", x.soon(c, v), least);
        if (least >= 0) {
            check.row(x, bits);
        }
    }

    private void compareTrail(int c, Map<Integer, Integer> walks) {
        int all = (1 << m.hedges.size()) - 1;
        int minutes = 0;
        List<Integer> row = new ArrayList<>();
        boolean found = endsWith(c, 0, all, new HashMap<>());
        int at = c;
        for (int set = 0; found && set != all; ) {
            int h = 0;
            while ((set >> h & 1) != 0 || !m.hedges.get(h).at(at)
                    || !endsWith(m.hedges.get(h).other(at), set | 1 << h, all, new HashMap<>())) {
                h++;
            }
            row.add(h);
            minutes += m.hedges.get(h).from(at);
            at = m.hedges.get(h).other(at);
            set |= 1 << h;
        }
        boolean walked = walks.keySet().stream().anyMatch(k -> k / 16 == all);
        check.due("there is a trail", found, walked);
        check.due("trail(" + c + ")", x.trail(c), found ? minutes : -2);
        if (found) {
            check.row(x, row.stream().mapToInt(Integer::intValue).toArray());
        }
    }

    private boolean endsWith(int at, int set, int all, Map<Integer, Boolean> known) {
        if (set == all) {
            return true;
        }
        Boolean was = known.get(set * 16 + at);
        if (was != null) {
            return was;
        }
        boolean ends = false;
        for (int h = 0; h < m.hedges.size() && !ends; h++) {
            Model.Hedge g = m.hedges.get(h);
            ends = (set >> h & 1) == 0 && g.at(at) && endsWith(g.other(at), set | 1 << h, all, known);
        }
        known.put(set * 16 + at, ends);
        return ends;
    }

    private void compareRound() {
        int start = m.hedges.get(0).a;
        // minutes times 2^14, and the turned hedges: both add up along a walk
        TreeMap<Integer, Long> best = new TreeMap<>();
        best.put(start, 0L);
        for (Map.Entry<Integer, Long> e = best.firstEntry(); e != null; e = best.higherEntry(e.getKey())) {
            int at = e.getKey() % 16;
            int set = e.getKey() / 16;
            for (int h = 0; h < m.hedges.size(); h++) {
                Model.Hedge g = m.hedges.get(h);
                if ((set >> h & 1) == 0 && g.at(at)) {
                    long more = ((long) g.from(at) << 14) + (at == g.b ? 1 << h : 0);
                    best.merge((set | 1 << h) * 16 + g.other(at), e.getValue() + more, Math::min);
                }
            }
        }
        Long all = best.get(((1 << m.hedges.size()) - 1) * 16 + start);
        check.due("round()", x.round(), all == null ? -2 : all >> 14);
        if (all != null) {
            check.row(x, (int) (all & (1 << 14) - 1));
        }
    }

    private void compareGates(int c) {
        int n = m.corners.size();
        int[][] ways = new int[n][n];
        int gates = 0;
        for (int a = 0; a < n; a++) {
            ways[a] = openWays(a);
        }
        for (int h = 0; h < m.hedges.size(); h++) {
            gates |= m.hedges.get(h).gate ? 1 << h : 0;
        }
        // minutes, and the gates so far as a text: of as few the least one
        TreeMap<Integer, String> best = new TreeMap<>();
        best.put(c, "00000:");
        for (Map.Entry<Integer, String> e = best.firstEntry(); e != null; e = best.higherEntry(e.getKey())) {
            int at = e.getKey() % 16;
            int set = e.getKey() / 16;
            for (int h = 0; h < m.hedges.size(); h++) {
                if (((gates & ~set) >> h & 1) == 0) {
                    continue;
                }
                Model.Hedge g = m.hedges.get(h);
                for (int from : new int[] {g.a, g.b}) {
                    if (ways[at][from] < 1 << 20) {
                        int minutes = Integer.parseInt(e.getValue().substring(0, 5)) + ways[at][from] + g.from(from);
                        String then = String.format("%05d", minutes) + e.getValue().substring(5) + (char) ('A' + h);
                        best.merge((set | 1 << h) * 16 + g.other(from), then, (p, q) -> p.compareTo(q) < 0 ? p : q);
                    }
                }
            }
        }
        String least = null;
        for (Map.Entry<Integer, String> e : best.entrySet()) {
            if (e.getKey() / 16 == gates && (least == null || e.getValue().compareTo(least) < 0)) {
                least = e.getValue();
            }
        }
        check.due("gates(" + c + ")", x.gates(c), least == null ? -2 : Integer.parseInt(least.substring(0, 5)));
        if (least != null) {
            check.row(x, least.substring(6).chars().map(h -> h - 'A').toArray());
        }
    }

    private int[] openWays(int c) {
        int[] best = new int[m.corners.size()];
        java.util.Arrays.fill(best, 1 << 20);
        best[c] = 0;
        for (int turn = 0; turn < best.length; turn++) {
            for (Model.Hedge h : m.hedges) {
                if (!h.gate) {
                    best[h.b] = Math.min(best[h.b], best[h.a] + h.from(h.a));
                    best[h.a] = Math.min(best[h.a], best[h.b] + h.from(h.b));
                }
            }
        }
        return best;
    }
}
