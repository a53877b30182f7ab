/** Promises 31 to 37: each sentence that names an edge, by itself. */
public final class HeardEdges {
    private static final Edges edges = new Edges();
    private static final Check check = edges.check;
    private static final int MIN = Integer.MIN_VALUE;
    private static final int MAX = Integer.MAX_VALUE;
    /** Over HEDGES 0 .. 4: FIELDS 0 and 1, 2 and 3, 4 and 5, 0 twice, 5 twice. */
    private static final String LAND = "@00;@10;ab1:01;ab1:23;ab1:45;ab1:00;ab1:55";
    private static final int ALL_WAYS = 4096;

    public static void main(String[] args) {
        cowsAndFields();
        heard();
        heardTwelve();
        forget();
        lands();
        landsOfOne();
        sure();
        next();
        nextCannot();
        lies();
        liesOfTwelve();
        quarrel();
        quarrelRow();
        edges.close(31, 37);
    }

    /** Pairs of a HEDGE and cows. */
    private static NoHedgeTwice heardOn(String land, int... pairs) {
        NoHedgeTwice x = Check.landed(land);
        for (int k = 0; k < pairs.length; k += 2) {
            check.due("heard(" + pairs[k] + ", " + pairs[k + 1] + ")", x.heard(pairs[k], pairs[k + 1]), k / 2 + 1);
        }
        return x;
    }

    // ---- the line ahead of these promises

    private static void cowsAndFields() {
        edges.edge(0, "(each FIELD has 0 .. 3 cows", () -> {
            int[] ways = {1, 2, 3, 4, 3, 2, 1};
            int[] first = {0, 10000, 20000, 30000, 130000, 230000, 330000};
            for (int cows = 0; cows <= 6; cows++) {
                NoHedgeTwice x = heardOn(LAND, 0, cows);
                check.dueRow(x, "lands() of " + cows + " in two FIELDS", x.lands(), 256 * ways[cows], first[cows]);
            }
        });
        edges.edge(0, "LEFT and RIGHT may be one FIELD: then twice)", () -> {
            for (int cows = 0; cows <= 6; cows++) {
                NoHedgeTwice x = heardOn(LAND, 3, cows, 4, cows);
                boolean even = cows % 2 == 0;
                check.due("lands() of " + cows, x.lands(), even ? 256 : 0);
                check.due("count(6)", x.count(6), even ? 1 : 0);
                check.due("sure()", x.sure(), even ? 33 : 0);
                check.due("count(6)", x.count(6), even ? 2 : 0);
            }
        });
    }

    // ---- promises 31 and 32

    private static void heard() {
        edges.edge(31, "Over a HEDGE so many (0 .. 6) were heard: how many hearings there are.", () -> {
            NoHedgeTwice x = heardOn(LAND, 0, 0, 4, 6, 0, 0);
            check.due("count(5)", x.count(5), 3);
            check.due("lands()", x.lands(), 64);
        });
        edges.edge(31, "Refused: others", () -> {
            for (int cows : new int[] {-1, 7, MIN, MAX}) {
                Twins.unchanged(check, "heard(0, " + cows + ")", Twins::busy, x -> x.heard(0, cows), -1);
            }
            for (int h : new int[] {-1, 5, 14, MIN, MAX}) {
                Twins.unchanged(check, "heard(" + h + ", 0)", Twins::busy, x -> x.heard(h, 0), -1);
            }
            check.due("heard(0, 0) without HEDGES", Check.landed("@00").heard(0, 0), -1);
            check.due("heard(0, 0) of a new object", new NoHedgeTwice().heard(0, 0), -1);
        });
    }

    private static NoHedgeTwice twelve() {
        NoHedgeTwice x = heardOn(LAND, 0, 1, 1, 2, 2, 3, 0, 1, 1, 2, 2, 3, 0, 1, 1, 2, 2, 3, 0, 1, 1, 2, 4, 4);
        x.odd();
        return x;
    }

    private static void heardTwelve() {
        edges.edge(31, "Refused: others, 12.", () -> {
            Twins.unchanged(check, "heard(0, 0), the 13th", HeardEdges::twelve, x -> x.heard(0, 0), -1);
            Twins.unchanged(check, "heard(4, 4), the 13th", HeardEdges::twelve, x -> x.heard(4, 4), -1);
            check.due("count(5)", twelve().count(5), 12);
            NoHedgeTwice x = twelve();
            check.due("lands() of 12", x.lands(), 6);
            x.forget();
            check.due("lands() of 11", x.lands(), 24);
            check.due("heard(4, 0), the 12th again", x.heard(4, 0), 12);
            check.due("lands() of 12", x.lands(), 6);
            check.due("heard(4, 0), the 13th", x.heard(4, 0), -1);
        });
    }

    private static void forget() {
        edges.edge(32, "Refused: none.", () -> {
            check.due("forget() of a new object", new NoHedgeTwice().forget(), -1);
            Twins.unchanged(check, "forget() of none", HeardEdges::forgotten, x -> x.forget(), -1);
        });
        edges.edge(32, "The latest hearing is forgotten: how many are left.", () -> {
            NoHedgeTwice x = heardOn(LAND, 0, 0, 1, 6, 2, 0);
            int[] ways = {1, 16, 256, ALL_WAYS};
            for (int left = 3; left >= 0; left--) {
                check.due("lands() of " + left, x.lands(), ways[3 - left]);
                check.due("count(5)", x.count(5), left);
                check.due("forget()", x.forget(), left - 1);
            }
            x = twelve();
            for (int left = 11; left >= 0; left--) {
                check.due("forget()", x.forget(), left);
            }
            check.due("forget() of none", x.forget(), -1);
        });
    }

    private static NoHedgeTwice forgotten() {
        NoHedgeTwice x = Twins.busy();
        x.forget();
        x.forget();
        x.forget();
        return x;
    }

    // ---- promises 33 and 34

    private static void lands() {
        edges.edge(33, "How many ways there are of cows in all six FIELDS that all hearings hold for", () -> {
            NoHedgeTwice x = new NoHedgeTwice();
            check.dueRow(x, "lands() of a new object", x.lands(), ALL_WAYS, 0);
            x = Check.landed(LAND);
            check.dueRow(x, "lands() without hearings", x.lands(), ALL_WAYS, 0);
            x = heardOn(LAND, 0, 3);
            check.dueRow(x, "lands() of one", x.lands(), 4 * 256, 30000);
        });
        edges.edge(33, "none without", () -> {
            NoHedgeTwice x = heardOn(LAND, 0, 0, 0, 1);
            x.odd();
            check.dueRow(x, "lands() without ways", x.lands(), 0);
            check.noSuch("row(0)", () -> x.row(0));
            x.forget();
            check.dueRow(x, "lands() with ways again", x.lands(), 256, 0);
        });
    }

    private static void landsOfOne() {
        edges.edge(33, "numbers of FIELDS 0, 1, .. as digits, the first FIELD the greatest place, with base 10", () -> {
            NoHedgeTwice x = heardOn(LAND, 0, 6, 1, 6, 2, 6);
            check.dueRow(x, "lands() of the greatest", x.lands(), 1, 333333);
            x = heardOn(LAND, 0, 0, 1, 0, 2, 0);
            check.dueRow(x, "lands() of the least", x.lands(), 1, 0);
            x = heardOn(LAND, 3, 2, 0, 3, 4, 0, 2, 3, 1, 6);
            check.dueRow(x, "lands() of 123330", x.lands(), 1, 123330);
        });
        edges.edge(33, "the least such number", () -> {
            NoHedgeTwice x = heardOn(LAND, 0, 4, 1, 5, 2, 1);
            check.dueRow(x, "lands()", x.lands(), 3 * 2 * 2, 132301);
        });
    }

    private static void sure() {
        edges.edge(34, "0 without ways.", () -> {
            NoHedgeTwice x = heardOn(LAND, 3, 1);
            x.odd();
            check.dueRow(x, "sure() without ways", x.sure(), 0);
            check.noSuch("row(0)", () -> x.row(0));
        });
        edges.edge(34, "FIELDS (bits) that have as many cows in all these ways", () -> {
            NoHedgeTwice x = new NoHedgeTwice();
            check.dueRow(x, "sure() of a new object", x.sure(), 0);
            x = heardOn(LAND, 0, 3, 1, 3, 2, 3);
            check.dueRow(x, "sure() of none", x.sure(), 0);
            x = heardOn(LAND, 3, 0);
            check.dueRow(x, "sure() of the first FIELD", x.sure(), 1, 0);
            x = heardOn(LAND, 4, 6);
            check.dueRow(x, "sure() of the last FIELD", x.sure(), 32, 3);
            x = heardOn(LAND, 0, 6, 1, 0, 2, 6);
            check.dueRow(x, "sure() of all six", x.sure(), 63, 3, 3, 0, 0, 3, 3);
        });
        edges.edge(34, "for each of them, in order, how many", () -> {
            NoHedgeTwice x = heardOn(LAND, 4, 2, 3, 4, 1, 3);
            check.dueRow(x, "sure()", x.sure(), 33, 2, 1);
            x.heard(0, 2);
            x.heard(2, 3);
            check.dueRow(x, "sure()", x.sure(), 51, 2, 0, 2, 1);
        });
    }

    // ---- promise 35

    private static void next() {
        edges.edge(35, "The HEDGE over which a hearing leaves the fewest ways at worst, whatever is heard", () -> {
            NoHedgeTwice x = heardOn(LAND, 0, 0);
            check.dueRow(x, "next(): FIELDS 2, 3 together leave a quarter", x.next(), 1, 64);
            x.heard(1, 6);
            check.dueRow(x, "next(): FIELDS 4, 5 together leave a quarter", x.next(), 2, 4);
            x.heard(2, 5);
            check.dueRow(x, "next(): FIELD 5 alone leaves one", x.next(), 4, 1);
            x.heard(4, 6);
            check.dueRow(x, "next() of one way", x.next(), 0, 1);
        });
        edges.edge(35, "of equal ones the first", () -> {
            NoHedgeTwice x = Check.landed("@00;@10;ab1:55;ab1:45;ab1:00;ab1:01;ab1:50;ab1:11");
            check.dueRow(x, "next() of all ways: each leaves a quarter", x.next(), 0, 1024);
            x.heard(4, 1);
            check.dueRow(x, "next(): HEDGES 1 and 3 leave a quarter", x.next(), 1, 128);
            x.heard(1, 0);
            check.dueRow(x, "next(): HEDGE 3 still does", x.next(), 3, 16);
        });
        edges.edge(35, "The HEDGE", () -> {
            NoHedgeTwice x = heardOn("@00;@10;ab1:00;ab1:00;ab1:00;ab1:00;ab1:00;ab1:00;ab1:00", 0, 2);
            Check.land(x, "ab1:00;ab1:00;ab1:00;ab1:00;ab1:00;ab1:00;ab1:55");
            check.dueRow(x, "next(): the last of 14", x.next(), 13, 256);
        });
    }

    private static void nextCannot() {
        edges.edge(35, "-2: no HEDGES, or no ways", () -> {
            check.due("next() of a new object", new NoHedgeTwice().next(), -2);
            Twins.unchanged(check, "next() without HEDGES", HeardEdges::withoutHedges, x -> x.next(), -2);
            Twins.unchanged(check, "next() without ways", HeardEdges::withoutWays, x -> x.next(), -2);
            NoHedgeTwice x = withoutWays();
            x.forget();
            check.dueRow(x, "next() with ways", x.next(), 0, 4);
        });
    }

    private static NoHedgeTwice withoutHedges() {
        NoHedgeTwice x = Check.landed("@00;@10");
        x.men();
        return x;
    }

    private static NoHedgeTwice withoutWays() {
        NoHedgeTwice x = heardOn(LAND, 1, 3, 3, 6, 2, 0, 4, 1);
        x.men();
        return x;
    }

    // ---- promises 36 and 37

    private static void lies() {
        edges.edge(36, "The fewest hearings that must be lies, so that the others hold for some way: how many", () -> {
            NoHedgeTwice x = new NoHedgeTwice();
            check.dueRow(x, "lies() of a new object", x.lies(), 0, 0);
            x = heardOn(LAND, 0, 0);
            check.dueRow(x, "lies() of one that holds", x.lies(), 0, 0);
            for (int cows = 0; cows <= 6; cows += 6) {
                x = heardOn(LAND, 0, cows, 1, cows, 2, cows);
                check.dueRow(x, "lies() of one way", x.lies(), 0, 0);
            }
            x = heardOn(LAND, 3, 5);
            check.dueRow(x, "lies() of one that can't be", x.lies(), 1, 1);
            x = heardOn(LAND, 0, 0, 0, 1, 0, 1);
            check.dueRow(x, "lies() of one against two", x.lies(), 1, 1);
            x = heardOn(LAND, 0, 1, 0, 0, 0, 1);
            check.dueRow(x, "lies() of the middle one", x.lies(), 1, 2);
        });
        edges.edge(36, "of as few the least number", () -> {
            NoHedgeTwice x = heardOn(LAND, 0, 0, 0, 1);
            check.dueRow(x, "lies(): the first of two", x.lies(), 1, 1);
            x = heardOn(LAND, 0, 1, 0, 0);
            check.dueRow(x, "lies(): the first of two, the greater one", x.lies(), 1, 1);
            x = heardOn(LAND, 0, 6, 3, 0, 0, 0, 3, 6);
            check.dueRow(x, "lies(): 1 and 2, or 0 and 3", x.lies(), 2, 6);
            x = heardOn(LAND, 0, 0, 1, 0, 0, 1, 1, 1);
            check.dueRow(x, "lies(): the first two", x.lies(), 2, 3);
        });
    }

    private static void liesOfTwelve() {
        edges.edge(36, "they (bits)", () -> {
            NoHedgeTwice x = heardOn(LAND, 3, 1, 3, 1, 3, 1, 3, 1, 3, 1, 3, 1, 3, 3, 3, 3, 3, 3, 3, 5, 3, 5, 3, 5);
            check.dueRow(x, "lies() of all 12", x.lies(), 12, 4095);
            x = heardOn(LAND, 0, 0, 0, 0, 0, 0, 0, 0, 0, 0, 0, 0, 0, 6, 0, 6, 0, 6, 0, 6, 0, 6, 0, 6);
            check.dueRow(x, "lies() of the first six", x.lies(), 6, 63);
            x.forget();
            check.dueRow(x, "lies() of the last five", x.lies(), 5, 31 << 6);
            x = twelve();
            check.dueRow(x, "lies() of 12 that hold", x.lies(), 0, 0);
            x.forget();
            x.heard(0, 6);
            check.dueRow(x, "lies() of the last of 12", x.lies(), 1, 1 << 11);
        });
    }

    private static void quarrel() {
        edges.edge(37, "-2: there are ways for all", () -> {
            check.due("quarrel() of a new object", new NoHedgeTwice().quarrel(), -2);
            Twins.unchanged(check, "quarrel() of none", HeardEdges::forgotten, x -> x.quarrel(), -2);
            Twins.unchanged(check, "quarrel() of 12 that hold", HeardEdges::twelve, x -> x.quarrel(), -2);
            for (int cows = 0; cows <= 6; cows += 6) {
                NoHedgeTwice x = heardOn(LAND, 0, cows, 1, cows, 2, cows);
                check.due("quarrel() of one way", x.quarrel(), -2);
            }
        });
        edges.edge(37, "The first hearing (0 ..) with which, and all ahead of it, there are no ways", () -> {
            NoHedgeTwice x = heardOn(LAND, 4, 1);
            check.dueRow(x, "quarrel() of the first", x.quarrel(), 0, -1);
            x.heard(0, 0);
            x.heard(0, 1);
            check.dueRow(x, "quarrel() of the first, more behind it", x.quarrel(), 0, -1);
            x = heardOn(LAND, 0, 0, 0, 1, 4, 1);
            check.dueRow(x, "quarrel() of the second", x.quarrel(), 1, 0);
            x = twelve();
            x.forget();
            x.heard(2, 4);
            check.dueRow(x, "quarrel() of the twelfth", x.quarrel(), 11, 2);
        });
    }

    private static void quarrelRow() {
        edges.edge(37, "the first one ahead of it with which alone there are none", () -> {
            NoHedgeTwice x = heardOn(LAND, 1, 1, 0, 6, 2, 0, 0, 6, 3, 4);
            check.dueRow(x, "quarrel() of two with the last", x.quarrel(), 4, 1);
            x = heardOn(LAND, 0, 0, 3, 5);
            check.dueRow(x, "quarrel() of one that can't be at all", x.quarrel(), 1, 0);
        });
        edges.edge(37, "(NONE: with each there are)", () -> {
            NoHedgeTwice x = heardOn("@00;@10;ab1:01;ab1:12;ab1:02", 0, 1, 1, 1, 2, 1);
            check.dueRow(x, "quarrel() of three", x.quarrel(), 2, -1);
            x = heardOn("@00;@10;ab1:01;ab1:12;ab1:02", 0, 3, 1, 6, 2, 0);
            check.dueRow(x, "quarrel() of the second and the third", x.quarrel(), 2, 1);
        });
    }
}
