/** Promises 14 to 17: each sentence that names an edge, by itself. */
public final class TourEdges {
    private static final Edges edges = new Edges();
    private static final Check check = edges.check;
    private static final int MIN = Integer.MIN_VALUE;
    private static final int MAX = Integer.MAX_VALUE;
    /** Two CORNERS, a third that is apart. */
    private static final String THREE = "@00;@30;@60";

    public static void main(String[] args) {
        tour();
        tourOfThirty();
        tourThatCannot();
        tourNumbers();
        look();
        lookReasons();
        lookAtAll();
        lookNumbers();
        meets();
        meetsAtTheEnds();
        meetsWaits();
        apart();
        edges.close(14, 17);
    }

    private static void tour(NoHedgeTwice x, int i, String text, int want) {
        check.due("tour(" + i + ") of " + text, Check.tour(x, i, text), want);
        check.due("signs behind tour(" + i + ") of " + text, x.count(7), 0);
    }

    private static NoHedgeTwice landed(String hedges) {
        return Check.landed(THREE, hedges);
    }

    // ---- promise 14

    private static void tour() {
        edges.edge(14, "number i (0, 1) of those that are laid down: its minutes", () -> {
            NoHedgeTwice x = landed("ab5:00~2;ab20:00~9");
            tour(x, 0, "aAA", 12);
            check.row(x, 0, 1);
            tour(x, 1, "bBAB", 63);
            check.row(x, 0, 3);
            x.look(0);
            check.due("number 0 stays: minutes", x.row(1), 5);
            x.set(2, 0, 0);
            check.due("look(0)", x.look(0), -2);
            check.row(x, 0, 12, 2);
            check.due("look(1)", x.look(1), -2);
            check.row(x, 0, 63, 3);
            tour(x, 0, "b", 0);
            check.due("look(0), laid down anew", x.look(0), -2);
            check.row(x, 0, 0, 0);
        });
        edges.edge(0, "a CORNER that is there, and HEDGES that are there (letters A .. N) one behind the other", () -> {
            NoHedgeTwice x = landed("ab1:00;ab1:00;ab1:00;ab1:00;ab1:00;ab1:00;ab1:00");
            tour(x, 0, "aH", -2);
            Check.land(x, "ab1:00;ab1:00;ab1:00;ab1:00;ab1:00;ab1:00;ab1:00");
            tour(x, 0, "aABCDEFGHIJKLMN", 14);
            check.row(x, 0, 0x3fff);
            tour(x, 0, "aN", 1);
            check.row(x, 1, 1 << 13);
            tour(x, 0, "aO", -2);
        });
        edges.edge(14, "a HEDGE may come more than once", () -> {
            NoHedgeTwice x = landed("ab1:00~3;ab1:00");
            tour(x, 0, "aAAAA", 10);
            check.row(x, 0, 1);
            tour(x, 0, "bABA", 9);
            check.row(x, 0, 3);
        });
        edges.edge(0, "Its minutes: as walked from CORNER to CORNER.", () -> {
            NoHedgeTwice x = landed("ab20:00~9");
            tour(x, 0, "aA", 20);
            tour(x, 0, "bA", 29);
            tour(x, 0, "b" + "A".repeat(29), 15 * 29 + 14 * 20);
        });
    }

    private static void tourOfThirty() {
        edges.edge(0, "a text of at most 30 signs", () -> {
            NoHedgeTwice x = landed("ab1:00");
            tour(x, 0, "a" + "A".repeat(28), 28);
            tour(x, 0, "a" + "A".repeat(29), 29);
            check.row(x, 1, 1);
            tour(x, 0, "a" + "A".repeat(30), -31);
            tour(x, 0, "a" + "A".repeat(79), -31);
            check.row(x, 1, 1);
            check.due("look(0) of what was laid down before", x.look(0), 1);
        });
        edges.edge(14, "30, if it has more", () -> {
            NoHedgeTwice x = landed("ab1:00");
            tour(x, 0, "a" + "A".repeat(29) + "x", -31);
            tour(x, 0, "a" + "A".repeat(29) + "xx", -31);
            tour(x, 0, "a" + "A".repeat(29) + "\0", -31);
            tour(x, 0, "a" + "A".repeat(28) + "B", -30);
            tour(x, 0, "a" + "A".repeat(28) + "BA", -30);
            tour(x, 0, "x" + "A".repeat(30), -1);
        });
        edges.edge(14, "(its end, if it ends too early", () -> {
            NoHedgeTwice x = landed("ab1:00");
            tour(x, 0, "", -1);
            tour(x, 1, "", -1);
            check.due("tour(0) of nothing, a new object", new NoHedgeTwice().tour(0), -1);
            tour(x, 0, "a", 0);
            check.row(x, 0, 0);
            tour(x, 0, "c", 0);
            check.row(x, 2, 0);
        });
    }

    private static void tourThatCannot() {
        edges.edge(14, "a HEDGE that is not there, or does not begin or end where one is: at its letter", () -> {
            NoHedgeTwice x = Check.landed(THREE, "ab1:00;bc1:00");
            for (String bad : new String[] {"C", "N", "O", "@", "\0", "a", "\u00c1"}) {
                tour(x, 0, "a" + bad, -2);
                tour(x, 0, "aAB" + bad, -4);
            }
            tour(x, 0, "aB", -2);
            tour(x, 0, "aAAB", -4);
            tour(x, 0, "cA", -2);
            tour(x, 0, "cBBA", -4);
            check.due("count(6)", x.count(6), 0);
        });
        edges.edge(14, "a CORNER that is not there", () -> {
            NoHedgeTwice x = landed("ab1:00");
            for (String bad : new String[] {"d", "dA", "`A", "j", "k", "A", "\0", "\u00e1", "@", ";"}) {
                tour(x, 0, bad, -1);
            }
            check.due("tour(0) of a, without CORNERS", Check.tour(new NoHedgeTwice(), 0, "a"), -1);
            x = Check.landed("@00;@01;@02;@03;@04;@05;@06;@07;@08;@09", "aj1:00");
            tour(x, 0, "jA", 1);
            tour(x, 0, "kA", -1);
        });
        edges.edge(14, "the sign at p can't stand there", () -> {
            String[] bad = {"", "f", "aB", "aAC", "aAAAAx"};
            int[] place = {0, 0, 1, 2, 5};
            for (int k = 0; k < bad.length; k++) {
                String text = bad[k];
                for (int i = 0; i < 2; i++) {
                    int one = i;
                    Twins.textAlone(check, "tour(" + i + ") of " + text, Twins::busy, x -> {
                        x.end(0);
                        return Check.tour(x, one, text);
                    }, -1 - place[k]);
                }
            }
        });
    }

    private static void tourNumbers() {
        edges.edge(14, "-100: another number (asked first; THE TEXT is empty then, too)", () -> {
            for (int i : new int[] {-1, 2, MIN, MAX}) {
                for (String text : new String[] {"", "aA", "x", "a" + "A".repeat(40)}) {
                    Twins.textAlone(check, "tour(" + i + ") of " + text, Twins::busy, x -> {
                        x.end(0);
                        return Check.tour(x, i, text);
                    }, -100);
                }
            }
            check.due("tour(2) of a new object", new NoHedgeTwice().tour(2), -100);
        });
    }

    // ---- promise 15

    private static void look() {
        edges.edge(15, "-2: all of it could be walked", () -> {
            NoHedgeTwice x = landed("ab5:00w3~2;bc7:00w4");
            tour(x, 0, "aAB", 12);
            check.due("look(0)", x.look(0), -2);
            check.row(x, 0, 12, 7);
            tour(x, 1, "c", 0);
            check.due("look(1) of a CORNER alone", x.look(1), -2);
            check.row(x, 0, 0, 0);
            x.rest(10);
            x.set(3, 0, 9);
            check.due("look(1) of a CORNER alone, behind FROST", x.look(1), -2);
            check.row(x, 0, 0, 0);
        });
        edges.edge(15, "as if THE WALKER was at its CORNER now, TIME and FRESH ones as they are", () -> {
            NoHedgeTwice x = landed("ab5:00;bc7:00;ca1:00");
            tour(x, 0, "cCA", 6);
            check.due("look(0) from a", x.look(0), -2);
            check.row(x, 0, 6, 2);
            x.walk(0);
            check.due("look(0) from b, one is walked", x.look(0), 1);
            check.row(x, -3, 1, 1);
            x.set(3, 0, 5);
            check.due("look(0) at FROST", x.look(0), 0);
            check.row(x, -5, 0, 0);
        });
        edges.edge(15, "the place in the TOUR (0 ..) of the first HEDGE that can't", () -> {
            NoHedgeTwice x = landed("ab1:00;ab1:00g");
            x.set(2, 0, 0);
            tour(x, 0, "a" + "A".repeat(28) + "B", 29);
            check.due("look(0)", x.look(0), -2);
            check.row(x, 0, 29, 29);
            x.rest(12);
            check.due("look(0): the last of 29", x.look(0), 28);
            check.row(x, -4, 28, 28);
            x.set(3, 0, 12);
            check.due("look(0): the first", x.look(0), 0);
            check.row(x, -5, 0, 0);
            x.set(3, 0, 13);
            check.due("look(0): the second", x.look(0), 1);
            check.row(x, -5, 1, 1);
        });
    }

    private static void lookReasons() {
        edges.edge(15, "the ROW: why (-3, -4, -5; 0), minutes till then, their WORTHS together", () -> {
            NoHedgeTwice x = landed("ab5:00w9~4g;ab6:00w8");
            x.walk(0);
            x.rest(35);
            tour(x, 0, "aA", 5);
            tour(x, 1, "aBA", 15);
            x.set(3, 0, 0);
            check.due("look(0): not FRESH comes first", x.look(0), 0);
            check.row(x, -3, 0, 0);
            x.set(2, 0, 0);
            check.due("look(0): the dark comes ahead of FROST", x.look(0), 0);
            check.row(x, -4, 0, 0);
            x.set(3, 0, 46);
            check.due("look(1): one walk till FROST", x.look(1), 1);
            check.row(x, -4, 6, 8);
            x.set(3, 0, 45);
            check.due("look(1): FROST", x.look(1), 0);
            check.row(x, -5, 0, 0);
        });
        edges.edge(15, "why (-3, -4, -5; 0)", () -> {
            NoHedgeTwice x = landed("ab5:00~4g;ab6:00~1");
            tour(x, 0, "bAB", 15);
            x.rest(39);
            check.due("look(0): a GATE that begins by LIGHT", x.look(0), -2);
            x.rest(1);
            check.due("look(0): a GATE in minute 40", x.look(0), 0);
            check.row(x, -4, 0, 0);
            x.rest(20);
            x.set(3, 0, 75);
            check.due("look(0) just till FROST", x.look(0), -2);
            check.row(x, 0, 15, 2);
            x.set(3, 0, 74);
            check.due("look(0), a minute too few", x.look(0), 1);
            check.row(x, -5, 9, 1);
        });
        edges.edge(15, "the first HEDGE that can't", () -> {
            NoHedgeTwice x = landed("ab20:00");
            x.set(2, 0, 1);
            x.rest(20);
            tour(x, 0, "aAAA", 60);
            check.due("look(0): twice on one DAY", x.look(0), 1);
            check.row(x, -3, 20, 1);
            x.rest(20);
            check.due("look(0): FRESH by the next DAY", x.look(0), 2);
            check.row(x, -3, 40, 2);
        });
    }

    private static void lookAtAll() {
        edges.edge(15, "Nothing changes.", () -> {
            for (int i = 0; i < 2; i++) {
                int one = i;
                Twins.unchanged(check, "look(" + i + "), and odd() for the ROW", TourEdges::rowOfOdd, x -> {
                    x.look(one);
                    return x.odd();
                }, rowOfOdd().odd());
            }
        });
    }

    private static NoHedgeTwice rowOfOdd() {
        NoHedgeTwice x = Twins.busy();
        x.odd();
        return x;
    }

    private static void lookNumbers() {
        edges.edge(15, "NONE: another number", () -> {
            for (int i : new int[] {-1, 2, MIN, MAX}) {
                Twins.unchanged(check, "look(" + i + ")", Twins::busy, x -> x.look(i), -1);
                check.due("look(" + i + ") of a new object", new NoHedgeTwice().look(i), -1);
            }
        });
        edges.edge(15, "-3: none is laid down", () -> {
            for (int i = 0; i < 2; i++) {
                int one = i;
                Twins.unchanged(check, "look(" + i + ")", () -> laidDown(1 - one, "aA"), x -> x.look(one), -3);
            }
            NoHedgeTwice x = laidDown(0, "aA");
            tour(x, 1, "aB", -2);
            check.due("look(1), a text that was none", x.look(1), -3);
        });
    }

    private static NoHedgeTwice laidDown(int i, String text) {
        NoHedgeTwice x = landed("ab5:00");
        tour(x, i, text, 5 * (text.length() - 1));
        return x;
    }

    // ---- promises 16 and 17

    private static NoHedgeTwice both(String hedges, String one, String other) {
        NoHedgeTwice x = landed(hedges);
        Check.tour(x, 0, one);
        Check.tour(x, 1, other);
        return x;
    }

    private static void met(NoHedgeTwice x, int wait, int minute, int corner) {
        check.due("meets(" + wait + ")", x.meets(wait), minute);
        check.row(x, corner);
    }

    private static void meets() {
        edges.edge(16, "the first minute at which both are at one CORNER: it; the ROW: that CORNER", () -> {
            NoHedgeTwice x = both("ab5:00;bc5:00;ca5:00", "aABC", "cBAC");
            met(x, 0, 5, 1);
            met(x, 5, 15, 0);
            met(both("ab5:00", "a", "aA"), 0, 0, 0);
            met(both("ab5:00", "bA", "bA"), 99, 0, 1);
        });
        edges.edge(16, "-2: never", () -> {
            Twins.unchanged(check, "meets(0)", () -> both("ab5:00", "aA", "c"), x -> x.meets(0), -2);
            Twins.unchanged(check, "meets(0), in one HEDGE", () -> both("ab5:00", "aA", "bA"), x -> x.meets(0), -2);
            Twins.unchanged(check, "meets(4)", () -> both("ab5:00", "aA", "bA"), x -> x.meets(4), -2);
            met(both("ab5:00", "aA", "bA"), 5, 5, 1);
        });
        edges.edge(16, "both stand at their first CORNERS from minute 0 on", () -> {
            NoHedgeTwice x = both("ab5:00;bc5:00", "aAB", "bA");
            check.due("meets(4): gone already", x.meets(4), -2);
            met(x, 5, 5, 1);
            met(x, 6, 5, 1);
            met(x, 99, 5, 1);
            check.due("meets(99): number 0 does not stand longer", both("ab5:00", "aA", "bA").meets(99), 5);
            x = both("ab5:00;bc5:00", "bA", "aA");
            check.due("meets(4): number 0 has gone by", x.meets(4), -2);
            met(x, 5, 5, 0);
        });
    }

    private static void meetsAtTheEnds() {
        edges.edge(16, "and at their last ones for ever", () -> {
            NoHedgeTwice x = both("ab5:00;bc20:00~9", "b", "cB" + "B".repeat(28));
            met(x, 99, 128, 1);
            x = both("ab5:00;bc20:00", "c" + "B".repeat(29), "b");
            met(x, 0, 20, 1);
            met(both("ab5:00;bc20:00", "bB", "aAB"), 99, 124, 2);
        });
        edges.edge(16, "and at their last ones for ever", () -> {
            NoHedgeTwice x = both("ab20:00~9", "bA", "b" + "A".repeat(29));
            met(x, 99, 0, 1);
            x = both("ab20:00~9;bc20:00~9", "aA", "c" + "B".repeat(28));
            met(x, 99, 128, 1);
            x = both("bc20:00~9;ab20:00", "b" + "AA".repeat(14) + "B", "a");
            met(x, 0, 14 * 49 + 20, 0);
        });
    }

    private static void meetsWaits() {
        edges.edge(16, "that of number 1 'wait' minutes later (0 .. 99;", () -> {
            NoHedgeTwice x = both("ab5:00", "b", "aA");
            for (int wait : new int[] {0, 1, 98, 99}) {
                met(x, wait, wait + 5, 1);
            }
        });
        edges.edge(16, "NONE: another wait", () -> {
            for (int wait : new int[] {-1, 100, MIN, MAX}) {
                Twins.unchanged(check, "meets(" + wait + ")", Twins::busy, x -> x.meets(wait), -1);
                check.due("meets(" + wait + ") of none", new NoHedgeTwice().meets(wait), -1);
            }
        });
        edges.edge(16, "-3: one is not laid down", () -> {
            check.due("meets(0) of none", new NoHedgeTwice().meets(0), -3);
            for (int i = 0; i < 2; i++) {
                int one = i;
                Twins.unchanged(check, "meets(0)", () -> laidDown(one, "aA"), x -> x.meets(0), -3);
                Twins.unchanged(check, "meets(99)", () -> laidDown(one, "aA"), x -> x.meets(99), -3);
            }
        });
        edges.edge(16, "Two TOURS are walked", () -> {
            NoHedgeTwice x = both("ab5:00~1;ab6:00", "b", "aA");
            x.sheet(2, 2, 20, 0);
            met(x, 0, 20, 1);
            x = both("ab5:00~1;ab6:00", "a", "bA");
            x.set(1, 0, 9);
            met(x, 0, 14, 0);
            x = both("ab5:00~1;ab6:00", "aA", "b");
            x.sheet(2, 2, 20, 0);
            met(x, 0, 20, 1);
            x = both("ab5:00;bc5:00", "aAB", "cBA");
            check.due("apart()", x.apart(), 1);
            x.sheet(2, 2, 5, 1);
            check.due("apart(), HEDGE 1 is longer now", x.apart(), 0);
        });
    }

    private static void apart() {
        edges.edge(17, "The least wait (0 .. 99) with which they never are.", () -> {
            check.due("apart(), of 0", both("ab5:00", "aA", "bA").apart(), 0);
            check.due("apart(), of 1", both("ab5:00;bc5:00", "aAB", "cBA").apart(), 1);
            // number 0 is at a in minute 98 for the last time, number 1 from wait on
            check.due("apart(), of 98", both("ab7:00;ca1:00", "aAAAAAAAAAAAAAAA", "cB").apart(), 98);
        });
        edges.edge(17, "-2: none", () -> {
            Twins.unchanged(check, "apart() of one place", () -> both("ab5:00", "aA", "aA"), x -> x.apart(), -2);
            Twins.unchanged(check, "apart() of one end", () -> both("ab5:00;bc5:00", "aA", "cB"), x -> x.apart(), -2);
        });
        edges.edge(17, "The least wait (0 .. 99)", () -> {
            // number 1 comes to b in minute wait + 1 and stays; number 0 is there for the last time ..
            NoHedgeTwice x = both("bc10:00;ab1:00", "b" + "A".repeat(11), "aB");
            check.due("apart(), .. in minute 100", x.apart(), -2);
            x = both("bc16:00~1;ab1:00", "b" + "A".repeat(7), "aB");
            check.due("apart(), .. in minute 99", x.apart(), 99);
        });
        edges.edge(17, "-3: one is not laid down", () -> {
            check.due("apart() of none", new NoHedgeTwice().apart(), -3);
            for (int i = 0; i < 2; i++) {
                int one = i;
                Twins.unchanged(check, "apart()", () -> laidDown(one, "aA"), x -> x.apart(), -3);
            }
        });
    }
}
