/** Promises 9 to 13 and 18, and what term 1 says of walking: each sentence that names an edge, by itself. */
public final class WalkerEdges {
    private static final Edges edges = new Edges();
    private static final Check check = edges.check;
    private static final int MIN = Integer.MIN_VALUE;
    private static final int MAX = Integer.MAX_VALUE;
    private static final String TWO = "@00;@30";

    public static void main(String[] args) {
        minutes();
        light();
        nights();
        walk();
        walkReasons();
        walkByFrost();
        rest();
        undo();
        undoOfThirty();
        undoForgets();
        undoIsKept();
        go();
        can();
        seasonOfDays();
        seasonByLight();
        seasonByWorth();
        seasonIntoTheNextDay();
        seasonTillFrost();
        seasonTells();
        edges.close(9, 13);
    }

    private static void at(NoHedgeTwice x, int corner, int time) {
        check.due("CORNER of THE WALKER", x.count(2), corner);
        check.due("TIME", x.count(3), time);
    }

    private static NoHedgeTwice landed(String hedges) {
        return Check.landed(TWO, hedges);
    }

    // ---- term 1

    private static void minutes() {
        edges.edge(0, "LONG minutes from its first CORNER, LONG and WIND from the other one", () -> {
            NoHedgeTwice x = landed("ab20:00~9;ab1:00;ba20:00~9;ab20:00~9");
            check.due("with the wind", x.walk(0), 20);
            check.due("no wind, from the other one", x.walk(1), 1);
            check.due("against the wind", x.walk(2), 29);
            check.due("against the wind, from b", x.walk(3), 29);
            at(x, 0, 79);
        });
        edges.edge(0, "THE WALKER is at a CORNER (at first 0; from the first text on)", () -> {
            NoHedgeTwice x = new NoHedgeTwice();
            at(x, -1, 0);
            x.rest(7);
            at(x, -1, 7);
            Check.land(x, "@00");
            at(x, 0, 7);
        });
        edges.edge(0, "DAY: TIME by 60, cut", () -> {
            for (int time : new int[] {59, 60, 119, 120}) {
                NoHedgeTwice x = landed("ab1:00");
                x.set(2, 0, 1);
                x.walk(0);
                x.rest(time - 1);
                check.due("FRESH after one night in minute " + time, x.hedge(0, 8), time >= 60 ? 1 : 0);
                x.set(2, 0, 2);
                check.due("FRESH after two nights in minute " + time, x.hedge(0, 8), time >= 120 ? 1 : 0);
            }
        });
    }

    private static void light() {
        edges.edge(0, "it is LIGHT in the first 40 minutes of each DAY", () -> {
            int[] time = {0, 39, 40, 59, 60, 99, 100, 119, 120, 9939, 9940, 9959, 9960};
            for (int t : time) {
                NoHedgeTwice x = landed("ab1:00g");
                x.set(3, 0, 9999);
                x.rest(t);
                boolean light = t % 60 < 40;
                check.due("can() in minute " + t, x.can(), light ? 1 : 0);
                check.due("walk(0) in minute " + t, x.walk(0), light ? 1 : -4);
            }
        });
        edges.edge(0, "a GATE or not", () -> {
            NoHedgeTwice x = landed("ab20:00g;ab1:00;ab1:00g");
            x.rest(39);
            check.due("a GATE that is left in the dark", x.walk(0), 20);
            check.due("no GATE, in the dark", x.walk(1), 1);
            check.due("a GATE in the LIGHT of the next DAY", x.walk(2), 1);
            at(x, 1, 61);
        });
    }

    private static void nights() {
        edges.edge(0, "NIGHTS 0 .. 99 (at first 9)", () -> {
            for (int nights : new int[] {0, 1, 9, 99}) {
                NoHedgeTwice x = landed("ab1:00");
                x.set(3, 0, 9999);
                check.due("NIGHTS at first", x.set(2, 0, nights), 9);
                x.walk(0);
                if (nights > 0) {
                    x.rest(60 * nights - 2);
                    check.due("one minute before " + nights + " NIGHTS", x.walk(0), -3);
                    check.due("hedge(0, 8)", x.hedge(0, 8), 0);
                    check.due("can()", x.can(), 0);
                    x.rest(1);
                }
                check.due("hedge(0, 8)", x.hedge(0, 8), 1);
                check.due("after " + nights + " NIGHTS", x.walk(0), 1);
            }
        });
        edges.edge(0, "FROST 0 .. 9999 (at first 600)", () -> {
            NoHedgeTwice x = landed("ab1:00;ab1:00");
            check.due("rest(599)", x.rest(599), 599);
            check.due("walk(0) till FROST", x.walk(0), 1);
            check.due("walk(1) behind FROST", x.walk(1), -5);
            check.due("FROST at first", x.set(3, 0, 9999), 600);
            check.due("rest(9398)", x.rest(9398), 9998);
            check.due("walk(1) till the latest FROST", x.walk(1), 1);
            check.due("rest(1)", x.rest(1), -5);
            x.go(0);
            x.set(3, 0, 0);
            check.due("walk(0) with FROST at 0", x.walk(0), -5);
            check.due("rest(0) with FROST at 0", x.rest(0), 0);
        });
        edges.edge(0, "if it was never walked", () -> {
            NoHedgeTwice x = landed("ab1:00;ab1:00");
            x.set(2, 0, 99);
            x.walk(0);
            check.due("hedge(0, 8), walked", x.hedge(0, 8), 0);
            check.due("hedge(1, 8), never walked, NIGHTS 99", x.hedge(1, 8), 1);
        });
        edges.edge(0, "NIGHTS or more above the DAY on which it was walked last (on which that began)", () -> {
            NoHedgeTwice x = landed("ab2:00;ab2:00");
            x.set(2, 0, 1);
            x.rest(58);
            x.walk(0);
            check.due("begun in minute 58, minute 60", x.hedge(0, 8), 1);
            x.walk(1);
            check.due("begun in minute 60, minute 62", x.hedge(1, 8), 0);
            x.set(2, 0, 0);
            check.due("no NIGHTS", x.hedge(1, 8), 1);
        });
        edges.edge(0, "on which it was walked last", () -> {
            NoHedgeTwice x = landed("ab1:00");
            x.set(2, 0, 2);
            x.walk(0);
            x.rest(119);
            check.due("walk(0) on DAY 2", x.walk(0), 1);
            x.rest(118);
            check.due("hedge(0, 8) on DAY 3", x.hedge(0, 8), 0);
            x.rest(1);
            check.due("hedge(0, 8) on DAY 4", x.hedge(0, 8), 1);
        });
    }

    // ---- promises 9 and 10

    private static void walk() {
        edges.edge(9, "NONE: none such", () -> {
            for (int h : new int[] {-1, 5, 13, 14, MIN, MAX}) {
                Twins.unchanged(check, "walk(" + h + ")", Twins::busy, x -> x.walk(h), -1);
            }
            check.due("walk(0) without HEDGES", Check.landed(TWO).walk(0), -1);
            check.due("walk(0) of a new object", new NoHedgeTwice().walk(0), -1);
        });
        edges.edge(9, "THE WALKER walks a HEDGE from the CORNER where it is: minutes", () -> {
            NoHedgeTwice x = landed("ab1:00;ab1:00;ab1:00;ab1:00;ab1:00;ab1:00;ab1:00");
            Check.land(x, "ab1:00;ab1:00;ab1:00;ab1:00;ab1:00;ab1:00;ab1:00");
            check.due("the last of 14", x.walk(13), 1);
            at(x, 1, 1);
            check.due("the first of 14", x.walk(0), 1);
            at(x, 0, 2);
            check.due("can()", x.can(), 0x1ffe);
        });
    }

    /**
     * At c in minute 40, in the dark: HEDGE 0 is not here, walked, a GATE; 1 walked, a
     * GATE; 2 a GATE; 3 none.
     */
    private static NoHedgeTwice atC(int frost) {
        NoHedgeTwice x = Check.landed("@00;@30;@60;ab5:00g;bc5:00g;ca5:00g;cb5:00");
        x.walk(0);
        x.rest(30);
        x.walk(1);
        x.odd();
        x.set(3, 0, frost);
        return x;
    }

    private static void walkReasons() {
        String[] words = {"-2: the HEDGE does not begin or end there", "-3: it is not FRESH",
            "-4: it is a GATE, and it is not LIGHT as it begins", "-5: TIME would be above FROST"};
        for (int h = 0; h < 4; h++) {
            int one = h;
            edges.edge(9, words[h], () -> Twins.unchanged(check, "walk(" + one + "), all later reasons too",
                () -> atC(44), x -> x.walk(one), -2 - one));
        }
        edges.edge(9, "Refused with why (the first)", () -> {
            int[] why = {-2, -3, -4};
            for (int h = 0; h < why.length; h++) {
                check.due("walk(" + h + ") far from FROST", atC(600).walk(h), why[h]);
            }
            check.due("walk(3) far from FROST", atC(600).walk(3), 5);
            NoHedgeTwice x = atC(600);
            x.rest(20);
            check.due("walk(0) by LIGHT", x.walk(0), -2);
            check.due("walk(1) by LIGHT", x.walk(1), -3);
            check.due("walk(2) by LIGHT", x.walk(2), 5);
        });
    }

    private static void walkByFrost() {
        edges.edge(9, "-5: TIME would be above FROST", () -> {
            NoHedgeTwice x = landed("ab5:00~2;ab5:00");
            x.set(3, 0, 4);
            Twins.unchanged(check, "walk(0)", () -> frozen(4), y -> y.walk(0), -5);
            check.due("can()", x.can(), 0);
            x.set(3, 0, 5);
            check.due("can() just till FROST", x.can(), 3);
            check.due("walk(0) just till FROST", x.walk(0), 5);
        });
        edges.edge(9, "-5: TIME would be above FROST", () -> {
            NoHedgeTwice x = landed("ab5:00~2;ab5:00");
            x.go(1);
            x.set(3, 0, 6);
            check.due("walk(0) against the wind", x.walk(0), -5);
            check.due("can(): the other one", x.can(), 2);
            x.set(3, 0, 7);
            check.due("walk(0) against the wind, just till FROST", x.walk(0), 7);
        });
    }

    private static NoHedgeTwice frozen(int frost) {
        NoHedgeTwice x = landed("ab5:00~2;ab5:00");
        x.set(3, 0, frost);
        return x;
    }

    private static void rest() {
        edges.edge(10, "TIME goes on by n minutes (0 .. 9999): TIME then", () -> {
            NoHedgeTwice x = Check.landed("@00");
            check.due("rest(0)", x.rest(0), 0);
            x.set(3, 0, 9999);
            check.due("rest(9999)", x.rest(9999), 9999);
            check.due("rest(0)", x.rest(0), 9999);
            check.due("rest(1)", x.rest(1), -5);
            at(x, 0, 9999);
        });
        edges.edge(10, "NONE: another n", () -> {
            for (int n : new int[] {-1, 10000, MIN, MAX}) {
                Twins.unchanged(check, "rest(" + n + ")", Twins::busy, x -> x.rest(n), -1);
            }
            check.due("rest(10000) with FROST at 9999", new NoHedgeTwice().rest(10000), -1);
        });
        edges.edge(10, "-5: it would be above FROST", () -> {
            Twins.unchanged(check, "rest(881), a minute too much", Twins::busy, x -> x.rest(881), -5);
            Twins.unchanged(check, "rest(9999)", Twins::busy, x -> x.rest(9999), -5);
            check.due("rest(880)", Twins.busy().rest(880), 900);
            NoHedgeTwice x = Twins.busy();
            x.set(3, 0, 19);
            check.due("rest(0) above FROST already", x.rest(0), -5);
            x.set(3, 0, 20);
            check.due("rest(0) at FROST", x.rest(0), 20);
        });
    }

    // ---- promise 11

    private static void undo() {
        edges.edge(11, "Refused: none.", () -> {
            check.due("undo() of a new object", new NoHedgeTwice().undo(), -1);
            Twins.unchanged(check, "undo() of none", WalkerEdges::rested, x -> x.undo(), -1);
            NoHedgeTwice x = Twins.busy();
            check.due("undo()", x.undo(), 1);
            check.due("undo()", x.undo(), 0);
            check.due("undo() of none", x.undo(), -1);
            at(x, 1, 10);
        });
        edges.edge(11, "(the CORNER, TIME, when the HEDGE was walked last are as ahead of it)", () -> {
            NoHedgeTwice x = landed("ab5:00~3;ab6:00");
            x.set(2, 0, 1);
            x.walk(0);
            x.rest(57);
            x.walk(0);
            at(x, 0, 70);
            check.due("undo()", x.undo(), 0);
            at(x, 1, 62);
            check.due("FRESH after one NIGHT", x.hedge(0, 8), 1);
            x.set(2, 0, 2);
            check.due("not never walked", x.hedge(0, 8), 0);
            x.set(2, 0, 99);
            x.walk(1);
            x.undo();
            check.due("never walked, as ahead of it", x.hedge(1, 8), 1);
        });
        edges.edge(11, "TIME", () -> {
            NoHedgeTwice x = landed("ab5:00~3;ab6:00");
            x.walk(0);
            x.set(1, 0, 9);
            x.sheet(2, 2, 20, 0);
            x.set(3, 0, 0);
            check.due("undo(), LONG and FROST changed since", x.undo(), 0);
            at(x, 0, 0);
        });
    }

    private static NoHedgeTwice rested() {
        NoHedgeTwice x = Twins.busy();
        x.rest(0);
        return x;
    }

    /** So many walks to and fro, each a minute and without NIGHTS. */
    private static NoHedgeTwice walked(int walks) {
        NoHedgeTwice x = landed("ab1:00");
        x.set(2, 0, 0);
        for (int k = 0; k < walks; k++) {
            x.walk(0);
        }
        return x;
    }

    private static void undoOfThirty() {
        edges.edge(11, "(of 30 that are kept, the latest ones)", () -> {
            for (int walks : new int[] {1, 29, 30, 31, 59, 60, 61, 100}) {
                NoHedgeTwice x = walked(walks);
                int kept = Math.min(walks, 30);
                check.due("count(4) of " + walks, x.count(4), kept);
                for (int left = kept - 1; left >= 0; left--) {
                    check.due("undo() of " + walks, x.undo(), left);
                    int done = walks - kept + left;
                    at(x, done % 2, done);
                }
                check.due("undo() of none, " + walks, x.undo(), -1);
                at(x, (walks - kept) % 2, walks - kept);
            }
        });
        edges.edge(11, "how many are left that can be", () -> {
            NoHedgeTwice x = walked(35);
            for (int k = 0; k < 10; k++) {
                x.undo();
            }
            check.due("count(4)", x.count(4), 20);
            x.walk(0);
            check.due("count(4), a walk behind undo()", x.count(4), 21);
            check.due("undo()", x.undo(), 20);
            at(x, 1, 25);
        });
    }

    private static void undoForgets() {
        edges.edge(11, "(land(), rest(), season(), go() and again() forget them, if they are not refused", () -> {
            NoHedgeTwice x = Twins.busy();
            x.end(0);
            Check.land(x, "@11");
            check.due("count(4) behind land()", x.count(4), 0);
            check.due("undo() behind land()", x.undo(), -1);
            x = Twins.busy();
            x.rest(0);
            check.due("count(4) behind rest(0)", x.count(4), 0);
            x = Twins.busy();
            x.season(0);
            check.due("count(4) behind season(0)", x.count(4), 0);
            x = Twins.busy();
            x.go(3);
            check.due("count(4) behind go(3)", x.count(4), 0);
            x = Twins.busy();
            x.again(2);
            check.due("count(4) behind again(2)", x.count(4), 0);
            check.due("undo() behind again(2)", x.undo(), -1);
        });
        edges.edge(11, "if they are not refused", () -> {
            NoHedgeTwice x = Twins.busy();
            x.land();
            x.rest(-1);
            x.rest(10000);
            x.rest(900);
            x.season(-1);
            x.season(61);
            x.go(-1);
            x.go(5);
            x.again(-1);
            x.again(1);
            x.again(3);
            check.due("count(4)", x.count(4), 2);
            check.due("undo()", x.undo(), 1);
            at(x, 2, 16);
        });
        edges.edge(11, "an empty land() does not", () -> {
            NoHedgeTwice x = Twins.busy();
            x.end(0);
            check.due("land()", x.land(), 0);
            check.due("count(4)", x.count(4), 2);
            check.due("undo()", x.undo(), 1);
        });
    }

    private static void undoIsKept() {
        edges.edge(11, "how many are left that can be", () -> {
            NoHedgeTwice x = Twins.busy();
            x.keep(1);
            x.tour(0);
            x.sign(0);
            x.end(0);
            x.set(2, 0, 0);
            x.set(3, 0, 0);
            x.sheet(3, 0, 0, 0);
            x.look(0);
            x.trail(0);
            x.most(0, 9);
            x.heard(0, 0);
            x.forget();
            x.walk(4);
            check.due("count(4) behind all other calls", x.count(4), 2);
        });
    }

    // ---- promises 12 and 13

    private static void go() {
        edges.edge(12, "THE WALKER is at a CORNER, TIME is 0, all HEDGES are FRESH.", () -> {
            for (int c : new int[] {0, 2, 4}) {
                NoHedgeTwice x = Twins.busy();
                x.set(2, 0, 99);
                check.due("go(" + c + ")", x.go(c), true);
                at(x, c, 0);
                for (int h = 0; h < 5; h++) {
                    check.due("hedge(" + h + ", 8)", x.hedge(h, 8), 1);
                }
                check.due("NIGHTS stay", x.count(8), 99);
                check.due("FROST stays", x.count(9), 900);
                check.due("the ROW stays", x.count(6), 2);
            }
        });
        edges.edge(12, "Refused: none such.", () -> {
            for (int c : new int[] {-1, 5, 10, MIN, MAX}) {
                Twins.unchanged(check, "go(" + c + ")", Twins::busy, x -> Twins.is(x.go(c)), 0);
            }
            check.due("go(0) without CORNERS", new NoHedgeTwice().go(0), false);
        });
    }

    private static void can() {
        edges.edge(13, "HEDGES (bits) that THE WALKER could walk now.", () -> {
            check.due("can() of a new object", new NoHedgeTwice().can(), 0);
            check.due("can() without HEDGES", Check.landed(TWO).can(), 0);
            NoHedgeTwice x = landed("ab1:00;ab1:00;ab1:00;ab1:00;ab1:00;ab1:00;ab1:00");
            Check.land(x, "ba1:00g;ba1:00g;ba1:00g;ba1:00g;ba1:00g;ba1:00g;ba1:00g");
            check.due("can() of all 14", x.can(), 0x3fff);
            x.rest(40);
            check.due("can() in the dark", x.can(), 0x7f);
            x.walk(6);
            check.due("can() when one is walked", x.can(), 0x3f);
            x.set(3, 0, 41);
            check.due("can() at FROST", x.can(), 0);
        });
        edges.edge(13, "could walk now", () -> {
            for (int h = 0; h < 4; h++) {
                check.due("can() where HEDGE " + h + " can't", atC(44).can() >> h & 1, 0);
            }
            check.due("can() where HEDGE 3 can", atC(45).can(), 8);
        });
    }

    // ---- promise 18

    private static void seasonOfDays() {
        edges.edge(18, "NONE: others", () -> {
            for (int n : new int[] {-1, 61, MIN, MAX}) {
                Twins.unchanged(check, "season(" + n + ")", Twins::busy, x -> x.season(n), -1);
            }
        });
        edges.edge(18, "n DAYS (0 .. 60)", () -> {
            NoHedgeTwice x = landed("ab1:00w2");
            x.set(2, 0, 1);
            x.set(3, 0, 9999);
            check.due("season(60)", x.season(60), 60);
            check.row(x, 120, 0);
            at(x, 0, 3600);
            check.due("season(0)", x.season(0), 0);
            check.row(x, 0, 0);
            at(x, 0, 3600);
            check.due("season(1)", x.season(1), 1);
            check.row(x, 2, 1);
            at(x, 1, 3660);
        });
        edges.edge(18, "the first of them the DAY now, if it is LIGHT", () -> {
            NoHedgeTwice x = landed("ab1:00;ab1:00");
            x.rest(39);
            check.due("season(1) in minute 39", x.season(1), 1);
            at(x, 1, 60);
        });
        edges.edge(18, "else TIME goes on to the next DAY's beginning first", () -> {
            for (int time : new int[] {40, 59}) {
                NoHedgeTwice x = landed("ab1:00;ab1:00");
                x.rest(time);
                check.due("season(1) in minute " + time, x.season(1), 2);
                at(x, 0, 120);
                x = landed("ab1:00;ab1:00");
                x.rest(time);
                check.due("season(0) in minute " + time, x.season(0), 0);
                at(x, 0, 60);
            }
        });
    }

    private static void seasonByLight() {
        edges.edge(18, "as long as it is LIGHT and it can", () -> {
            NoHedgeTwice x = landed("ab20:00;ab19:00;ab1:00;ab1:00");
            check.due("season(1): till minute 40", x.season(1), 3);
            check.row(x, 3, 1);
            at(x, 1, 60);
            x = landed("ab20:00;ab19:00;ab9:00;ab1:00");
            check.due("season(1): the third begins in minute 39", x.season(1), 3);
            at(x, 1, 60);
        });
        edges.edge(18, "and it can", () -> {
            NoHedgeTwice x = Check.landed("@00;@30;@60;ab1:00");
            x.go(2);
            check.due("season(1) where no HEDGE is", x.season(1), 0);
            check.row(x, 0, 2);
            at(x, 2, 60);
            x = Check.landed("@00;@30;@60;ab1:00;bc1:00;ab1:00");
            check.due("season(1), in the end where it can't go on", x.season(1), 2);
            at(x, 2, 60);
        });
        edges.edge(18, "and it can", () -> {
            NoHedgeTwice x = landed("ab20:00w9;ab19:00;ab2:00g");
            x.set(3, 0, 38);
            check.due("season(1): one that FROST forbids is left", x.season(1), 2);
            check.row(x, 10, 0);
            at(x, 0, 38);
        });
    }

    private static void seasonByWorth() {
        edges.edge(18, "the one with the greatest WORTH, of equal ones the first", () -> {
            NoHedgeTwice x = Check.landed("@00;@10;@20;@30;ab1:00w3;ac1:00w4;ad1:00w4");
            check.due("season(1): the second", x.season(1), 1);
            check.row(x, 4, 2);
            x.go(0);
            x.set(0, 2, 5);
            check.due("season(1): the third", x.season(1), 1);
            check.row(x, 5, 3);
            x.go(0);
            x.set(0, 0, 9);
            check.due("season(1): the first", x.season(1), 1);
            check.row(x, 9, 1);
        });
        edges.edge(18, "of equal ones the first", () -> {
            NoHedgeTwice x = Check.landed("@00;@10;@20;ab1:00w0;ac1:00w0");
            check.due("season(1): worth nothing is walked too", x.season(1), 1);
            check.row(x, 0, 1);
        });
    }

    private static void seasonIntoTheNextDay() {
        edges.edge(18, "(a walk that ends in the LIGHT of the next DAY: it goes on so, still as that one of the n)", () -> {
            NoHedgeTwice x = landed("ab20:00~1;ab1:00;ab1:00");
            x.go(1);
            x.rest(39);
            check.due("season(1): minute 39 till minute 60", x.season(1), 3);
            at(x, 0, 120);
            x = landed("ab20:00;ab1:00;ab1:00");
            x.rest(39);
            check.due("season(1): minute 39 till minute 59", x.season(1), 1);
            at(x, 1, 60);
        });
        edges.edge(18, "still as that one of the n", () -> {
            NoHedgeTwice x = landed("ab20:00~9;ab1:00;ab1:00");
            x.set(2, 0, 1);
            x.go(1);
            x.rest(39);
            // from b: 0 till 68, where it is FRESH again: 0, 1, 2; on DAY 2: 0, 1, 2
            check.due("season(2)", x.season(2), 7);
            check.row(x, 7, 0);
            at(x, 0, 180);
        });
    }

    private static void seasonTillFrost() {
        edges.edge(18, "If TIME would be above FROST by going on so, it is FROST", () -> {
            NoHedgeTwice x = landed("ab1:00");
            x.set(3, 0, 59);
            check.due("season(60), a minute too few", x.season(60), 1);
            at(x, 1, 59);
            x = landed("ab1:00");
            x.set(3, 0, 60);
            x.set(2, 0, 0);
            check.due("season(1), just till FROST", x.season(1), 40);
            at(x, 0, 60);
            check.due("season(1) at FROST", x.season(1), 0);
            at(x, 0, 60);
        });
        edges.edge(18, "If TIME would be above FROST by going on so, it is FROST", () -> {
            NoHedgeTwice x = landed("ab1:00");
            x.set(3, 0, 59);
            x.rest(40);
            check.due("season(1) from the dark", x.season(1), 0);
            check.row(x, 0, 0);
            at(x, 0, 59);
            x = landed("ab1:00");
            x.set(3, 0, 60);
            x.rest(40);
            check.due("season(1) from the dark, just till FROST", x.season(1), 0);
            at(x, 0, 60);
        });
        edges.edge(18, "(or stays, if it is above that already)", () -> {
            for (int time : new int[] {30, 45}) {
                for (int n : new int[] {1, 60}) {
                    NoHedgeTwice x = landed("ab1:00");
                    x.rest(time);
                    x.set(3, 0, time - 1);
                    check.due("season(" + n + ") in minute " + time, x.season(n), 0);
                    check.row(x, 0, 0);
                    at(x, 0, time);
                }
            }
        });
        edges.edge(18, "and all ends", () -> {
            NoHedgeTwice x = landed("ab1:00");
            x.set(2, 0, 1);
            x.set(3, 0, 150);
            check.due("season(60)", x.season(60), 3);
            check.row(x, 3, 1);
            at(x, 1, 150);
            NoHedgeTwice y = landed("ab1:00;ab1:00");
            y.rest(50);
            y.set(3, 0, 55);
            check.due("season(60): dark till FROST", y.season(60), 0);
            at(y, 0, 55);
        });
    }

    private static void seasonTells() {
        edges.edge(18, "how many walks; the ROW: WORTHS together, the CORNER", () -> {
            NoHedgeTwice x = new NoHedgeTwice();
            check.due("season(1) without CORNERS", x.season(1), 0);
            check.row(x, 0, -1);
            at(x, -1, 60);
            x = Check.landed("@00");
            check.due("season(60) without HEDGES", x.season(60), 0);
            check.row(x, 0, 0);
            at(x, 0, 600);
        });
        edges.edge(18, "how many walks", () -> {
            NoHedgeTwice x = landed("ab1:00w9");
            x.set(2, 0, 0);
            x.set(3, 0, 9999);
            check.due("season(60): the most walks", x.season(60), 2400);
            check.row(x, 21600, 0);
            at(x, 0, 3600);
        });
    }
}
