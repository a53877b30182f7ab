import java.util.function.Supplier;
import java.util.function.ToIntFunction;

/**
 * Promises 38 to 41, and what term 2 says of refused calls and of the ROW: each
 * sentence that names an edge, by itself.
 */
public final class KeptEdges {
    private static final Edges edges = new Edges();
    private static final Check check = edges.check;
    private static final int MIN = Integer.MIN_VALUE;
    private static final int MAX = Integer.MAX_VALUE;
    private static final String TEN = "@00;@01;@02;@03;@04;@05;@06;@07;@08;@09";
    private static final String SEVEN = "ab1:00;ab1:00;ab1:00;ab1:00;ab1:00;ab1:00;ab1:00";

    public static void main(String[] args) {
        keep();
        again();
        againTold();
        againRefused();
        countOfNothing();
        countOfMost();
        countRefused();
        row();
        rowThrows();
        refusedOnNothing();
        refusedOnFull();
        rowStays();
        rowComes();
        textAlone();
        fiveHundredAndTwelve();
        edges.close(38, 41);
    }

    private static void at(NoHedgeTwice x, int corner, int time) {
        check.due("CORNER of THE WALKER", x.count(2), corner);
        check.due("TIME", x.count(3), time);
    }

    // ---- promises 38 and 39

    private static void keep() {
        edges.edge(38, "kept under a number 0 .. 2: true", () -> {
            NoHedgeTwice x = Check.landed(TEN, "ab1:00;bc1:00;cd1:00");
            for (int i = 0; i <= 2; i++) {
                check.due("keep(" + i + ")", x.keep(i), true);
                x.walk(i);
            }
            for (int i = 0; i <= 2; i++) {
                check.due("again(" + i + ")", x.again(i), true);
                at(x, i, i);
                for (int h = 0; h < 3; h++) {
                    check.due("hedge(" + h + ", 8)", x.hedge(h, 8), h < i ? 0 : 1);
                }
            }
        });
        edges.edge(38, "Refused: others.", () -> {
            for (int i : new int[] {-1, 3, MIN, MAX}) {
                Twins.unchanged(check, "keep(" + i + ")", Twins::busy, x -> Twins.is(x.keep(i)), 0);
                check.due("keep(" + i + ") of a new object", new NoHedgeTwice().keep(i), false);
            }
        });
        edges.edge(38, "The CORNER, TIME, when HEDGES were walked last are kept", () -> {
            NoHedgeTwice x = Twins.busy();
            x.keep(0);
            check.due("walks stay to be undone: count(4)", x.count(4), 2);
            x.go(4);
            x.keep(1);
            x.again(0);
            at(x, 3, 20);
            x.keep(0);
            x.again(1);
            at(x, 4, 0);
            x.keep(0);
            x.again(2);
            x.again(0);
            at(x, 4, 0);
        });
    }

    private static void again() {
        edges.edge(39, "They are as they were kept under a number", () -> {
            NoHedgeTwice x = Check.landed(TEN, "ab1:00;ab1:00");
            x.set(2, 0, 2);
            x.walk(0);
            x.rest(59);
            x.walk(1);
            x.keep(2);
            x.rest(100);
            x.set(2, 0, 1);
            x.set(3, 0, 30);
            x.odd();
            for (int time = 0; time < 2; time++) {
                check.due("again(2)", x.again(2), true);
                at(x, 0, 61);
                check.due("walked on DAY 0", x.hedge(0, 8), 1);
                check.due("walked on DAY 1", x.hedge(1, 8), 0);
                check.due("NIGHTS stay", x.count(8), 1);
                check.due("FROST stays", x.count(9), 30);
                check.due("the ROW stays", x.count(6), 1);
                x.go(5);
            }
        });
        edges.edge(39, "as they were kept", () -> {
            NoHedgeTwice x = Check.landed(TEN, "ab1:00;bc1:00");
            x.keep(0);
            x.walk(0);
            x.again(0);
            x.walk(0);
            x.walk(1);
            check.due("again(0): walks since change nothing kept", x.again(0), true);
            at(x, 0, 0);
            check.due("hedge(0, 8)", x.hedge(0, 8), 1);
        });
    }

    private static void againTold() {
        edges.edge(39, "(HEDGES told since were never walked", () -> {
            NoHedgeTwice x = Check.landed(TEN, "ab1:00");
            x.set(2, 0, 99);
            x.walk(0);
            x.keep(0);
            Check.land(x, SEVEN);
            Check.land(x, "ab1:00;ab1:00;ab1:00;ab1:00;ab1:00;ab1:00");
            for (int h = 1; h < 14; h++) {
                x.walk(h);
                check.due("hedge(" + h + ", 8), walked", x.hedge(h, 8), 0);
            }
            x.again(0);
            at(x, 1, 1);
            for (int h = 0; h < 14; h++) {
                check.due("hedge(" + h + ", 8), as kept", x.hedge(h, 8), h == 0 ? 0 : 1);
            }
        });
        edges.edge(39, "kept without CORNERS: THE WALKER is at CORNER 0)", () -> {
            NoHedgeTwice x = new NoHedgeTwice();
            x.rest(7);
            check.due("keep(1)", x.keep(1), true);
            x.rest(5);
            check.due("again(1), without CORNERS still", x.again(1), true);
            at(x, -1, 7);
            Check.land(x, "@00;@01;ab5:00");
            x.walk(0);
            at(x, 1, 12);
            check.due("again(1)", x.again(1), true);
            at(x, 0, 7);
            check.due("hedge(0, 8)", x.hedge(0, 8), 1);
        });
    }

    private static void againRefused() {
        edges.edge(39, "Refused: nothing kept.", () -> {
            for (int i : new int[] {-1, 1, 3, MIN, MAX}) {
                Twins.unchanged(check, "again(" + i + ")", Twins::busy, x -> Twins.is(x.again(i)), 0);
            }
            for (int i : new int[] {-1, 0, 1, 2, 3, MIN, MAX}) {
                check.due("again(" + i + ") of a new object", new NoHedgeTwice().again(i), false);
            }
            for (int kept = 0; kept <= 2; kept++) {
                NoHedgeTwice x = Check.landed(TEN);
                x.keep(kept);
                for (int i = 0; i <= 2; i++) {
                    check.due("again(" + i + ") where " + kept + " is kept", x.again(i), i == kept);
                }
            }
        });
    }

    // ---- promise 40

    private static void counts(NoHedgeTwice x, int... want) {
        for (int what = 0; what < want.length; what++) {
            check.due("count(" + what + ")", x.count(what), want[what]);
        }
    }

    private static void countOfNothing() {
        edges.edge(40, "2: the CORNER of THE WALKER (NONE without)", () -> {
            counts(new NoHedgeTwice(), 0, 0, -1, 0, 0, 0, 0, 0, 9, 600);
            counts(Check.landed("@00"), 1, 0, 0, 0, 0, 0, 0, 0, 9, 600);
        });
        edges.edge(40, "8: NIGHTS, 9: FROST", () -> {
            NoHedgeTwice x = new NoHedgeTwice();
            x.set(2, 0, 0);
            x.set(3, 0, 0);
            counts(x, 0, 0, -1, 0, 0, 0, 0, 0, 0, 0);
            x.set(2, 0, 99);
            x.set(3, 0, 9999);
            counts(x, 0, 0, -1, 0, 0, 0, 0, 0, 99, 9999);
        });
    }

    private static void countOfMost() {
        edges.edge(40, "What 0: CORNERS, 1: HEDGES, 2: the CORNER of THE WALKER", () -> {
            NoHedgeTwice x = Check.landed(TEN, SEVEN, SEVEN);
            x.set(3, 0, 9999);
            x.set(2, 0, 0);
            x.go(9);
            x.rest(9999);
            counts(x, 10, 14, 9, 9999, 0, 0, 0, 0, 0, 9999);
        });
        edges.edge(40, "4: walks that can be undone, 5: hearings, 6: numbers of the ROW, 7: signs of THE TEXT", () -> {
            NoHedgeTwice x = Check.landed(TEN, SEVEN, SEVEN);
            x.set(2, 0, 0);
            for (int k = 0; k < 40; k++) {
                x.walk(0);
                x.heard(0, 0);
                x.sign(0);
            }
            x.trail(0);
            counts(x, 10, 14, 0, 40, 30, 12, 14, 80, 0, 600);
        });
    }

    private static void countRefused() {
        edges.edge(40, "NONE for another what.", () -> {
            for (int what : new int[] {-1, 10, MIN, MAX}) {
                Twins.unchanged(check, "count(" + what + ")", Twins::busy, x -> x.count(what), -1);
            }
        });
    }

    // ---- promise 41

    private static void row() {
        edges.edge(41, "Number i of the ROW.", () -> {
            NoHedgeTwice x = Check.landed(TEN, SEVEN, SEVEN);
            x.trail(0);
            for (int i = 0; i < 14; i++) {
                check.due("row(" + i + ")", x.row(i), i);
            }
            check.noSuch("row(14)", () -> x.row(14));
            x.odd();
            check.due("row(0)", x.row(0), 0);
            check.noSuch("row(1): of the ROW told last alone", () -> x.row(1));
        });
        edges.edge(0, "numbers told last by a call that says so", () -> {
            NoHedgeTwice x = Check.landed(TEN, "ab5:00");
            x.most(0, 5);
            check.row(x, 1, 5);
            x.can();
            x.bridges();
            x.reach(-1);
            x.apart();
            x.grass(0, 1);
            x.walk(0);
            x.rest(1);
            x.go(0);
            x.keep(0);
            x.again(0);
            x.heard(0, 0);
            x.forget();
            x.set(0, 0, 2);
            x.sheet(0, 1, 5, 0);
            x.count(0);
            x.hedge(0, 0);
            x.sign(0);
            x.end(0);
            x.land();
            check.row(x, 1, 5);
        });
    }

    private static void rowThrows() {
        edges.edge(41, "NoSuchElementException: none such.", () -> {
            for (int i : new int[] {-1, 2, 13, 14, MIN, MAX}) {
                Twins.unchanged(check, "row(" + i + ")", Twins::busy, x -> x.row(i), Twins.THROWN);
            }
            for (int i : new int[] {-1, 0, 1, MIN, MAX}) {
                check.noSuch("row(" + i + ") of a new object", () -> new NoHedgeTwice().row(i));
            }
            NoHedgeTwice x = Check.landed(TEN);
            x.odd();
            x.closed();
            check.noSuch("row(0) of an empty ROW", () -> x.row(0));
        });
    }

    // ---- term 2

    private static void refused(String name, Supplier<NoHedgeTwice> made, ToIntFunction<NoHedgeTwice> call, int want) {
        Twins.unchanged(check, name, made, call, want);
    }

    private static void refusedOnNothing() {
        edges.edge(0, "Refused calls answer NONE, or false, and change nothing", () -> {
            Supplier<NoHedgeTwice> made = KeptEdges::rested;
            refused("grass(0, 0)", made, x -> x.grass(0, 0), -1);
            refused("set(0, 0, 0)", made, x -> x.set(0, 0, 0), -1);
            refused("set(1, 0, 0)", made, x -> x.set(1, 0, 0), -1);
            refused("walk(0)", made, x -> x.walk(0), -1);
            refused("rest(600)", made, x -> x.rest(600), -5);
            refused("undo()", made, x -> x.undo(), -1);
            refused("go(0)", made, x -> Twins.is(x.go(0)), 0);
            refused("look(0)", made, x -> x.look(0), -3);
            refused("meets(0)", made, x -> x.meets(0), -3);
            refused("apart()", made, x -> x.apart(), -3);
            refused("trail(0)", made, x -> x.trail(0), -1);
            refused("most(0, 0)", made, x -> x.most(0, 0), -1);
            refused("home(0, 0)", made, x -> x.home(0, 0), -1);
            refused("soon(0, 0)", made, x -> x.soon(0, 0), -1);
            refused("gates(0)", made, x -> x.gates(0), -1);
            refused("heard(0, 0)", made, x -> x.heard(0, 0), -1);
            refused("forget()", made, x -> x.forget(), -1);
            refused("next()", made, x -> x.next(), -2);
            refused("quarrel()", made, x -> x.quarrel(), -2);
            refused("again(0)", made, x -> Twins.is(x.again(0)), 0);
            refused("hedge(0, 0)", made, x -> x.hedge(0, 0), Twins.THROWN);
            refused("reach(-1)", made, x -> x.reach(-1), Twins.THROWN);
            refused("row(1)", made, x -> x.row(1), Twins.THROWN);
        });
    }

    private static NoHedgeTwice rested() {
        NoHedgeTwice x = new NoHedgeTwice();
        x.rest(5);
        x.odd();
        Check.say(x, "aA");
        return x;
    }

    private static NoHedgeTwice full() {
        NoHedgeTwice x = Check.landed(TEN, SEVEN, SEVEN);
        Check.tour(x, 0, "aAB");
        Check.tour(x, 1, "bC");
        x.set(2, 0, 0);
        x.set(3, 0, 40);
        for (int k = 0; k < 40; k++) {
            x.walk(k % 14);
            x.heard(k % 14, 0);
            x.keep(k % 3);
        }
        x.trail(0);
        Check.say(x, "aABCDEFGHIJKLMNAB" + "A".repeat(60));
        x.end(77);
        return x;
    }

    private static void refusedOnFull() {
        edges.edge(0, "change nothing but THE TEXT", () -> {
            Supplier<NoHedgeTwice> made = KeptEdges::full;
            refused("sign(0)", made, x -> x.sign(0), -1);
            refused("end(78)", made, x -> Twins.is(x.end(78)), 0);
            refused("walk(0)", made, x -> x.walk(0), -5);
            refused("rest(1)", made, x -> x.rest(1), -5);
            refused("heard(0, 0)", made, x -> x.heard(0, 0), -1);
            refused("go(10)", made, x -> Twins.is(x.go(10)), 0);
            refused("season(61)", made, x -> x.season(61), -1);
            refused("keep(3)", made, x -> Twins.is(x.keep(3)), 0);
            refused("quarrel()", made, x -> x.quarrel(), -2);
            refused("soon(0, 15)", made, x -> x.soon(0, 15), -2);
            refused("sheet(0, 15, 9, 0)", made, x -> x.sheet(0, 15, 9, 0), -1);
            refused("row(14)", made, x -> x.row(14), Twins.THROWN);
            refused("hedge(14, 0)", made, x -> x.hedge(14, 0), Twins.THROWN);
            refused("reach(14)", made, x -> x.reach(14), Twins.THROWN);
        });
    }

    private static void rowStays() {
        edges.edge(0, "The ROW stays with NONE and with each number below 0 that tells why there is no answer (-2, -3 ..)", () -> {
            NoHedgeTwice x = Check.landed(TEN, "ab1:00;ac1:00;ad1:00;ef1:00;ef1:33");
            x.heard(4, 1);
            x.most(0, 1);
            int[] want = {-1, -2, -2, -2, -2, -1, -1, -1, -2, -1, -3, -3, -1, -1, -1, -2, -2, -1, -5, -2, -1, -2};
            int[] got = {x.trail(10), x.trail(0), x.round(), x.closed(), x.open(), x.most(10, 0), x.home(0, -1),
                x.soon(0, 201), x.soon(0, 200), x.gates(10), x.look(0), x.meets(0), x.look(2), x.meets(100),
                x.season(61), x.next(), x.walk(3), x.walk(5), x.rest(601), x.sheet(0, -1, 0, 0), x.sheet(4, 0, 0, 0),
                Check.tour(x, 0, "aD")};
            for (int k = 0; k < want.length; k++) {
                check.due("call " + k, got[k], want[k]);
            }
            check.due("land()", Check.land(x, "x"), -1);
            check.due("tour(2)", x.tour(2), -100);
            x.set(0, 0, 1);
            check.due("sheet(3, ..)", x.sheet(3, 0, 0, 0), -3);
            check.row(x, 1, 1);
        });
        edges.edge(0, "The ROW stays", () -> {
            NoHedgeTwice x = Check.landed(TEN, "ab1:00g;ac1:00g");
            Check.tour(x, 0, "aA");
            Check.tour(x, 1, "c");
            x.most(0, 2);
            check.due("gates(0)", x.gates(0), -2);
            check.due("meets(0)", x.meets(0), -2);
            check.due("quarrel()", x.quarrel(), -2);
            check.row(x, 1, 1);
        });
    }

    private static void rowComes() {
        edges.edge(0, "a number below 0 that is meant as such comes with its ROW.", () -> {
            NoHedgeTwice x = Check.landed(TEN, "ab1:00;ab1:33");
            Check.tour(x, 0, "aA");
            x.most(0, 1);
            check.due("look(0)", x.look(0), -2);
            check.row(x, 0, 1, 1);
            x.heard(1, 1);
            check.due("quarrel()", x.quarrel(), 0);
            check.row(x, -1);
            x = new NoHedgeTwice();
            check.due("season(0)", x.season(0), 0);
            check.row(x, 0, -1);
        });
    }

    private static void textAlone() {
        edges.edge(0, "THE TEXT, which a call that reads it empties", () -> {
            Twins.textAlone(check, "land() of bB", Twins::busy, x -> x.land(), -2);
            Twins.textAlone(check, "tour(2) of bB", Twins::busy, x -> x.tour(2), -100);
            NoHedgeTwice x = Twins.busy();
            check.due("tour(0) of bB", x.tour(0), 6);
            check.due("count(7)", x.count(7), 0);
            Check.say(x, "@00");
            check.due("land()", x.land(), 1);
            check.due("count(7)", x.count(7), 0);
            Check.say(x, "ab");
            x.season(1);
            x.go(0);
            x.again(0);
            check.due("count(7) behind calls that do not read it", x.count(7), 2);
        });
    }

    private static void fiveHundredAndTwelve() {
        edges.edge(0, "An object is used for at most 512 calls after it has been made", () -> {
            NoHedgeTwice x = new NoHedgeTwice();
            x.sign('@' << 24 | '0' << 16 | '0' << 8 | ';');
            x.sign('@' << 24 | '9' << 16 | '9' << 8 | ';');
            x.sign('a' << 24 | 'b' << 16 | '1' << 8 | ':');
            x.sign('0' << 24 | '0' << 16);
            x.end(14);
            check.due("land()", x.land(), 3);
            x.set(2, 0, 0);
            x.set(3, 0, 9999);
            int calls = 8;
            for (int k = 1; calls < 482; calls++, k++) {
                check.due("walk(0), call " + calls, x.walk(0), 1);
            }
            for (int left = 29; calls < 511; calls++, left--) {
                check.due("undo(), call " + calls, x.undo(), left);
            }
            check.due("count(3), call 512", x.count(3), 482 - 8 - 29);
        });
    }
}
