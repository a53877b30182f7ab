/** Promises 25 to 30: each sentence that names an edge, by itself. */
public final class FrostEdges {
    private static final Edges edges = new Edges();
    private static final Check check = edges.check;
    private static final int MIN = Integer.MIN_VALUE;
    private static final int MAX = Integer.MAX_VALUE;
    private static final String TEN = "@00;@01;@02;@03;@04;@05;@06;@07;@08;@09";
    private static final String STAR = "ab1:00;ac1:00;ad1:00;ae1:00;af1:00;ag1:00;ah1:00;ai1:00;aj1:00";
    private static final String DEAR = "ab1:00w9;ab1:00w9;ab1:00w9;ab1:00w9;ab1:00w9;ab1:00w9;ab1:00w9";
    private static final String GATES = "ab1:00g;ab1:00g;ab1:00g;ab1:00g;ab1:00g;ab1:00g;ab1:00g";
    private static final int EVERY = 0x3fff;

    public static void main(String[] args) {
        whatDoesNotMatter();
        most();
        mostOfEqual();
        home();
        soon();
        soonOfEqual();
        bridges();
        reach();
        reachThrows();
        gates();
        gatesShut();
        gatesThatCannot();
        gatesOfEqual();
        edges.close(25, 30);
    }

    private static NoHedgeTwice landed(String... hedges) {
        NoHedgeTwice x = Check.landed(TEN);
        for (String some : hedges) {
            Check.land(x, some);
        }
        return x;
    }

    // ---- promises 25 to 27

    private static void whatDoesNotMatter() {
        edges.edge(0, "by the frost (HEDGES at most once; NIGHTS, GATES do not matter)", () -> {
            NoHedgeTwice x = landed("ab5:00w9g");
            x.walk(0);
            x.rest(40);
            check.dueRow(x, "most(0, 9999) of one that is walked, a GATE in the dark", x.most(0, 9999), 9, 1, 5);
            check.dueRow(x, "soon(0, 9)", x.soon(0, 9), 5, 1);
            x.set(2, 0, 0);
            check.dueRow(x, "most(0, 9999), no NIGHTS", x.most(0, 9999), 9, 1, 5);
            check.dueRow(x, "home(0, 9999), no NIGHTS", x.home(0, 9999), 0, 0, 0);
            check.due("soon(0, 10), no NIGHTS", x.soon(0, 10), -2);
        });
    }

    private static void most() {
        edges.edge(25, "The most WORTH that can be walked from a CORNER within so many minutes (0 .. 9999)", () -> {
            NoHedgeTwice x = landed("ab5:00w3~2;bc6:00w4");
            check.dueRow(x, "most(0, 0)", x.most(0, 0), 0, 0, 0);
            check.dueRow(x, "most(0, 4)", x.most(0, 4), 0, 0, 0);
            check.dueRow(x, "most(0, 5)", x.most(0, 5), 3, 1, 5);
            check.dueRow(x, "most(0, 10)", x.most(0, 10), 3, 1, 5);
            check.dueRow(x, "most(0, 11)", x.most(0, 11), 7, 3, 11);
            check.dueRow(x, "most(0, 9999)", x.most(0, 9999), 7, 3, 11);
            check.dueRow(x, "most(2, 12), against the wind", x.most(2, 12), 4, 2, 6);
            check.dueRow(x, "most(2, 13)", x.most(2, 13), 7, 3, 13);
            check.dueRow(x, "most(9, 9999) where no HEDGE is", x.most(9, 9999), 0, 0, 0);
        });
        edges.edge(25, "NONE: others", () -> {
            for (int minutes : new int[] {-1, 10000, MIN, MAX}) {
                Twins.unchanged(check, "most(0, " + minutes + ")", Twins::busy, x -> x.most(0, minutes), -1);
            }
            for (int c : new int[] {-1, 5, 10, MIN, MAX}) {
                Twins.unchanged(check, "most(" + c + ", 0)", Twins::busy, x -> x.most(c, 0), -1);
            }
            check.due("most(0, 0) of a new object", new NoHedgeTwice().most(0, 0), -1);
        });
        edges.edge(25, "The most WORTH", () -> {
            NoHedgeTwice x = landed(DEAR, DEAR);
            check.dueRow(x, "most(0, 14) of 14", x.most(0, 14), 126, EVERY, 14);
            check.dueRow(x, "most(0, 13) of 14", x.most(0, 13), 117, EVERY >> 1, 13);
            for (int h = 0; h < 14; h++) {
                x.set(1, h, 9);
            }
            x.sheet(2, 14, 20, 0);
            check.dueRow(x, "most(1, 343) of the longest 14", x.most(1, 343), 126, EVERY, 343);
            check.dueRow(x, "most(1, 342) of the longest 14", x.most(1, 342), 117, EVERY >> 1, 323);
        });
    }

    private static void mostOfEqual() {
        edges.edge(25, "of as much those with the fewest minutes, then the least number", () -> {
            NoHedgeTwice x = landed("ab5:00w4;ab4:00w4;ab4:00w4");
            check.dueRow(x, "most(0, 5): fewer minutes", x.most(0, 5), 4, 2, 4);
            x.sheet(2, 3, 5, 0);
            check.dueRow(x, "most(0, 5): the least number", x.most(0, 5), 4, 1, 5);
            check.dueRow(x, "most(0, 10): the least number", x.most(0, 10), 8, 3, 10);
        });
        edges.edge(25, "of as much those with the fewest minutes, then the least number", () -> {
            NoHedgeTwice x = landed("ab5:00w0;bc5:00w0");
            check.dueRow(x, "most(0, 9999): nothing is worth a walk", x.most(0, 9999), 0, 0, 0);
            x.set(0, 1, 1);
            check.dueRow(x, "most(0, 9999): by one that is worth nothing", x.most(0, 9999), 1, 3, 10);
            x = landed("ab5:00~9;bc5:00;ca5:00");
            check.dueRow(x, "most(1, 9999): the shorter way about", x.most(1, 9999), 3, 7, 15);
        });
    }

    private static void home() {
        edges.edge(26, "The same, back to that CORNER.", () -> {
            NoHedgeTwice x = landed("ab5:00w3;ba6:00w4;bc1:00w9");
            check.dueRow(x, "home(0, 0)", x.home(0, 0), 0, 0, 0);
            check.dueRow(x, "home(0, 10)", x.home(0, 10), 0, 0, 0);
            check.dueRow(x, "home(0, 11)", x.home(0, 11), 7, 3, 11);
            check.dueRow(x, "home(0, 9999)", x.home(0, 9999), 7, 3, 11);
            check.dueRow(x, "home(2, 9999), a way out alone", x.home(2, 9999), 0, 0, 0);
            check.dueRow(x, "home(9, 9999) where no HEDGE is", x.home(9, 9999), 0, 0, 0);
            x = landed(DEAR, DEAR);
            check.dueRow(x, "home(0, 14) of 14", x.home(0, 14), 126, EVERY, 14);
            check.dueRow(x, "home(0, 13) of 14", x.home(0, 13), 108, EVERY >> 2, 12);
        });
        edges.edge(26, "The same", () -> {
            for (int minutes : new int[] {-1, 10000, MIN, MAX}) {
                Twins.unchanged(check, "home(0, " + minutes + ")", Twins::busy, x -> x.home(0, minutes), -1);
            }
            for (int c : new int[] {-1, 5, 10, MIN, MAX}) {
                Twins.unchanged(check, "home(" + c + ", 0)", Twins::busy, x -> x.home(c, 0), -1);
            }
            check.due("home(0, 0) of a new object", new NoHedgeTwice().home(0, 0), -1);
        });
        edges.edge(26, "The same", () -> {
            NoHedgeTwice x = landed("ab5:00w3;ab5:00w3;ab5:00w3~1");
            check.dueRow(x, "home(0, 9999): fewest minutes, then the least number", x.home(0, 9999), 6, 3, 10);
            x.set(1, 0, 2);
            x.set(1, 1, 1);
            check.dueRow(x, "home(0, 9999): the fewest minutes", x.home(0, 9999), 6, 3, 11);
            x.set(0, 0, 2);
            check.dueRow(x, "home(0, 9999): the most WORTH", x.home(0, 9999), 6, 6, 11);
        });
    }

    private static void soon() {
        edges.edge(27, "The fewest minutes from a CORNER till WORTHS together are v or more (v 0 .. 200)", () -> {
            NoHedgeTwice x = landed("ab5:00w3~2;bc6:00w4");
            check.dueRow(x, "soon(0, 0)", x.soon(0, 0), 0, 0);
            check.dueRow(x, "soon(0, 1)", x.soon(0, 1), 5, 1);
            check.dueRow(x, "soon(0, 3)", x.soon(0, 3), 5, 1);
            check.dueRow(x, "soon(0, 4)", x.soon(0, 4), 11, 3);
            check.dueRow(x, "soon(0, 7)", x.soon(0, 7), 11, 3);
            check.dueRow(x, "soon(2, 7), against the wind", x.soon(2, 7), 13, 3);
            check.dueRow(x, "soon(9, 0) where no HEDGE is", x.soon(9, 0), 0, 0);
            x = landed(DEAR, DEAR);
            check.dueRow(x, "soon(0, 126) of 14", x.soon(0, 126), 14, EVERY);
            check.dueRow(x, "soon(0, 117) of 14", x.soon(0, 117), 13, EVERY >> 1);
            check.dueRow(x, "soon(0, 118) of 14", x.soon(0, 118), 14, EVERY);
        });
        edges.edge(27, "-2: never", () -> {
            for (int v : new int[] {127, 199, 200}) {
                Twins.unchanged(check, "soon(0, " + v + ") of 126", FrostEdges::dear, x -> x.soon(0, v), -2);
            }
            Twins.unchanged(check, "soon(4, 1)", Twins::busy, x -> x.soon(4, 1), -2);
        });
        edges.edge(27, "NONE: others", () -> {
            for (int v : new int[] {-1, 201, MIN, MAX}) {
                Twins.unchanged(check, "soon(0, " + v + ")", Twins::busy, x -> x.soon(0, v), -1);
            }
            for (int c : new int[] {-1, 5, 10, MIN, MAX}) {
                Twins.unchanged(check, "soon(" + c + ", 0)", Twins::busy, x -> x.soon(c, 0), -1);
            }
            check.due("soon(0, 0) of a new object", new NoHedgeTwice().soon(0, 0), -1);
        });
    }

    private static NoHedgeTwice dear() {
        NoHedgeTwice x = landed(DEAR, DEAR);
        x.odd();
        return x;
    }

    private static void soonOfEqual() {
        edges.edge(27, "of as few the least number", () -> {
            NoHedgeTwice x = landed("ab5:00w1;ab4:00w4;ab4:00w9");
            check.dueRow(x, "soon(0, 4): the first, though another is worth more", x.soon(0, 4), 4, 2);
            check.dueRow(x, "soon(0, 5)", x.soon(0, 5), 4, 4);
            check.dueRow(x, "soon(0, 10): HEDGES 0 and 2, or 1 and 2", x.soon(0, 10), 8, 6);
            x.sheet(2, 3, 4, 0);
            check.dueRow(x, "soon(0, 10): HEDGES 0 and 2, as few minutes", x.soon(0, 10), 8, 5);
        });
    }

    // ---- promises 28 and 29

    private static void bridges() {
        edges.edge(28, "HEDGES (bits) without which their two CORNERS would not hang together by the others.", () -> {
            check.due("bridges() of a new object", new NoHedgeTwice().bridges(), 0);
            check.due("bridges() without HEDGES", landed().bridges(), 0);
            check.due("bridges() of one HEDGE", landed("ij1:00").bridges(), 1);
            check.due("bridges() of two alike", landed("ij1:00;ji1:00").bridges(), 0);
            check.due("bridges() of a star", landed(STAR).bridges(), 511);
            check.due("bridges() of a round", landed("ab1:00;bc1:00;ca1:00").bridges(), 0);
            check.due("bridges() of a round and a way", landed("ab1:00;bc1:00;ca1:00;cd1:00;ef1:00").bridges(), 24);
            check.due("bridges() of 14", landed(STAR, "bc1:00;cd1:00;de1:00;ef1:00;fg1:00").bridges(), 0x1c0);
            check.due("bridges() of a long way", landed("ab1:00;bc1:00;cd1:00;de1:00;ef1:00;fg1:00;gh1:00",
                "hi1:00;ij1:00").bridges(), 511);
        });
        edges.edge(28, "by the others", () -> {
            NoHedgeTwice x = landed("ab1:00;ab1:00g");
            x.walk(0);
            x.rest(39);
            x.set(3, 0, 0);
            check.due("bridges(): one is walked, one a GATE in the dark", x.bridges(), 0);
        });
    }

    private static void reach() {
        edges.edge(29, "(NONE: without none)", () -> {
            check.due("reach(-1) of a CORNER alone", Check.landed("@00").reach(-1), 1);
            check.due("reach(-1) without HEDGES", landed().reach(-1), 1);
            check.due("reach(-1) of a star", landed(STAR).reach(-1), 1023);
            NoHedgeTwice x = landed("ij1:00");
            check.due("reach(-1) where no HEDGE is", x.reach(-1), 1);
            x.go(9);
            check.due("reach(-1) from the last", x.reach(-1), 3 << 8);
        });
        edges.edge(29, "but without one told", () -> {
            NoHedgeTwice x = landed("ab1:00;bc1:00;cd1:00;cd1:00");
            check.due("reach(0)", x.reach(0), 1);
            check.due("reach(1)", x.reach(1), 3);
            check.due("reach(2)", x.reach(2), 15);
            check.due("reach(3)", x.reach(3), 15);
            check.due("reach(-1)", x.reach(-1), 15);
            x = landed(STAR, "bc1:00;bc1:00;bc1:00;bc1:00;bj1:00");
            check.due("reach(13), the last of 14", x.reach(13), 1023);
            check.due("reach(7), a way without another", x.reach(7), 1023 - 256);
        });
        edges.edge(29, "by HEDGES that are FRESH now", () -> {
            NoHedgeTwice x = landed("ab1:00;bc1:00;cd1:00g");
            x.set(2, 0, 1);
            x.walk(0);
            x.rest(39);
            x.set(3, 0, 0);
            check.due("reach(-1): walked HEDGES are none, GATES and FROST do not matter", x.reach(-1), 14);
            check.due("reach(0)", x.reach(0), 14);
            check.due("reach(2)", x.reach(2), 6);
            x.set(3, 0, 600);
            x.rest(19);
            check.due("reach(-1) in minute 59", x.reach(-1), 14);
            x.rest(1);
            check.due("reach(-1) in minute 60", x.reach(-1), 15);
        });
    }

    private static void reachThrows() {
        edges.edge(29, "NoSuchElementException: another number, no CORNERS.", () -> {
            for (int h : new int[] {-2, 5, 13, 14, MIN, MAX}) {
                Twins.unchanged(check, "reach(" + h + ")", Twins::busy, x -> x.reach(h), Twins.THROWN);
            }
            check.noSuch("reach(0) without HEDGES", () -> landed().reach(0));
            check.noSuch("reach(14) of 14", () -> landed(GATES, GATES).reach(14));
        });
        edges.edge(29, "no CORNERS", () -> {
            for (int h : new int[] {-2, -1, 0, 1, MIN, MAX}) {
                check.noSuch("reach(" + h + ") of a new object", () -> new NoHedgeTwice().reach(h));
            }
        });
    }

    // ---- promise 30

    private static void gates() {
        edges.edge(30, "NONE: none such", () -> {
            for (int c : new int[] {-1, 5, 10, MIN, MAX}) {
                Twins.unchanged(check, "gates(" + c + ")", Twins::busy, x -> x.gates(c), -1);
            }
            check.due("gates(0) of a new object", new NoHedgeTwice().gates(0), -1);
        });
        edges.edge(30, "The fewest minutes from a CORNER till all GATES were walked", () -> {
            NoHedgeTwice x = landed("ab5:00;bc5:00");
            x.odd();
            check.dueRow(x, "gates(0) without GATES", x.gates(0), 0);
            x.odd();
            check.dueRow(x, "gates(9) without GATES, where no HEDGE is", x.gates(9), 0);
            check.due("gates(0) without HEDGES", landed().gates(0), 0);
            x = landed("ab5:00~3g");
            check.dueRow(x, "gates(0) of one", x.gates(0), 5, 0);
            check.dueRow(x, "gates(1) of one, against the wind", x.gates(1), 8, 0);
            x = landed(GATES, GATES);
            check.dueRow(x, "gates(0) of 14", x.gates(0), 14, 0, 1, 2, 3, 4, 5, 6, 7, 8, 9, 10, 11, 12, 13);
            check.dueRow(x, "gates(1) of 14", x.gates(1), 14, 0, 1, 2, 3, 4, 5, 6, 7, 8, 9, 10, 11, 12, 13);
        });
    }

    private static void gatesShut() {
        edges.edge(30, "each of which shuts behind one for ever", () -> {
            NoHedgeTwice x = landed("ab5:00g;ac5:00g");
            check.dueRow(x, "gates(1)", x.gates(1), 10, 0, 1);
            check.dueRow(x, "gates(2)", x.gates(2), 10, 1, 0);
            check.due("gates(0): the one that is walked shuts", x.gates(0), -2);
            x = landed("ab5:00g;ac5:00g;ba9:00~9");
            check.dueRow(x, "gates(0), back by a HEDGE", x.gates(0), 19, 0, 1);
        });
        edges.edge(30, "(all other HEDGES may be walked as often as one likes; LIGHT, NIGHTS do not matter)", () -> {
            NoHedgeTwice x = Check.landed(TEN, "ab5:00~2;bc5:00g;bc5:00g;ad5:00g");
            x.walk(0);
            x.rest(40);
            check.dueRow(x, "gates(0), to and fro by one that is walked", x.gates(0), 27, 1, 2, 3);
            check.dueRow(x, "gates(3)", x.gates(3), 20, 3, 1, 2);
            for (int time = 0; time < 40; time++) {
                check.dueRow(x, "gates(1), once more", x.gates(1), 22, 1, 2, 3);
            }
            x = Check.landed(TEN, "ab1:00;ac9:00g;ac9:00g;bd9:00g;bd9:00g;ae9:00g;ae9:00g");
            check.dueRow(x, "gates(0), there and back", x.gates(0), 55, 1, 2, 5, 6, 3, 4);
            check.dueRow(x, "gates(1), there and back", x.gates(1), 55, 3, 4, 1, 2, 5, 6);
        });
        edges.edge(30, "(all other HEDGES may be walked as often as one likes", () -> {
            NoHedgeTwice x = Check.landed(TEN, "bd5:00;da5:00;ac5:00~1;ce5:00g");
            check.dueRow(x, "gates(1), by three HEDGES", x.gates(1), 20, 3);
            check.dueRow(x, "gates(4), the GATE first", x.gates(4), 5, 3);
            Check.land(x, "fb1:00~2g");
            check.dueRow(x, "gates(4), all the way back", x.gates(4), 24, 3, 4);
            check.dueRow(x, "gates(5), all the way", x.gates(5), 21, 4, 3);
            Check.land(x, "bc14:00");
            check.dueRow(x, "gates(5), by a shorter way", x.gates(5), 20, 4, 3);
            Check.land(x, "ab3:00");
            check.dueRow(x, "gates(5), by two of them", x.gates(5), 14, 4, 3);
            x = landed("cb5:00;ba5:00;ad5:00g");
            check.dueRow(x, "gates(2), to a by two of them", x.gates(2), 15, 2);
        });
    }

    private static void gatesThatCannot() {
        edges.edge(30, "-2: it can't be", () -> {
            cannot("far from it", "ab5:00g", 2);
            cannot("three ends", "ab5:00g;ac5:00g;ad5:00g", 0);
            cannot("begun between", "ab5:00g;ac5:00g", 0);
            cannot("two parts", "ab5:00g;cd5:00g", 0);
            cannot("a round elsewhere", "ab5:00;cd5:00g;dc5:00g", 0);
            cannot("a round elsewhere, and one here", "ab5:00g;ba5:00g;cd5:00g;dc5:00g", 1);
            cannot("two parts, the way between is a GATE that is needed twice", "ab5:00g;bc5:00g;bd5:00g;ae5:00g", 0);
        });
    }

    private static void cannot(String name, String hedges, int corner) {
        Twins.unchanged(check, "gates(" + corner + "): " + name, () -> {
            NoHedgeTwice x = landed(hedges);
            x.odd();
            return x;
        }, x -> x.gates(corner), -2);
    }

    private static void gatesOfEqual() {
        edges.edge(30, "of equal ones the least row", () -> {
            NoHedgeTwice x = landed("bc5:00g;ab5:00g;ac5:00g");
            check.dueRow(x, "gates(0) of a round", x.gates(0), 15, 1, 0, 2);
            x.set(1, 0, 0);
            x.set(1, 1, 1);
            check.dueRow(x, "gates(0), the wind against neither", x.gates(0), 15, 1, 0, 2);
            x.set(1, 2, 2);
            check.dueRow(x, "gates(0), against HEDGES 0 and 1 rather than 2", x.gates(0), 16, 2, 0, 1);
            x = landed("ab5:00;bc5:00g;ab5:00g");
            check.dueRow(x, "gates(0): the GATE ahead, or the HEDGE", x.gates(0), 10, 2, 1);
            check.dueRow(x, "gates(2)", x.gates(2), 10, 1, 2);
        });
        edges.edge(30, "the ROW: GATES in order", () -> {
            NoHedgeTwice x = landed("ab5:00g;ab9:00;ab5:00g;ba5:00g");
            check.dueRow(x, "gates(0), told by their HEDGES' numbers", x.gates(0), 15, 0, 2, 3);
            x.set(1, 0, 1);
            check.dueRow(x, "gates(0), the wind on the way back", x.gates(0), 15, 0, 2, 3);
            x.set(1, 2, 1);
            check.dueRow(x, "gates(0), one with the wind, one not", x.gates(0), 15, 0, 3, 2);
        });
    }
}
