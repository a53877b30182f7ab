/** Promises 19 to 24: each sentence that names an edge, by itself. */
public final class RoundEdges {
    private static final Edges edges = new Edges();
    private static final Check check = edges.check;
    private static final int MIN = Integer.MIN_VALUE;
    private static final int MAX = Integer.MAX_VALUE;
    /** In one row, two minutes of GRASS from each to the next. */
    private static final String TEN = "@00;@01;@02;@03;@04;@05;@06;@07;@08;@09";
    private static final String STAR = "ab1:00;ac1:00;ad1:00;ae1:00;af1:00;ag1:00;ah1:00;ai1:00;aj1:00";
    private static final String FIVE_PARTS = "ab1:00;cd1:00;ef1:00;gh1:00;ij1:00";
    private static final String SEVEN = "ab1:00;ab1:00;ab1:00;ab1:00;ab1:00;ab1:00;ab1:00";

    public static void main(String[] args) {
        whatDoesNotMatter();
        odd();
        men();
        trail();
        trailThatCannot();
        trailOfLeastRow();
        round();
        roundThatCannot();
        closed();
        closedPairs();
        open();
        openPairs();
        apart();
        edges.close(19, 24);
    }

    private static NoHedgeTwice landed(String hedges) {
        return Check.landed(TEN, hedges);
    }

    // ---- the line ahead of these promises

    private static void whatDoesNotMatter() {
        edges.edge(0, "rounds (each HEDGE just once; NIGHTS, GATES, FROST do not matter)", () -> {
            NoHedgeTwice x = Check.landed("@00;@30;@34;ab5:00g;bc6:00g;ca7:00g");
            x.walk(0);
            x.walk(1);
            x.walk(2);
            x.rest(30);
            x.set(3, 0, 0);
            check.due("can()", x.can(), 0);
            check.dueRow(x, "odd()", x.odd(), 0, 0);
            check.dueRow(x, "men()", x.men(), 1, 1);
            check.dueRow(x, "trail(0)", x.trail(0), 18, 0, 1, 2);
            check.dueRow(x, "round()", x.round(), 18, 0);
            check.dueRow(x, "closed()", x.closed(), 0);
            check.dueRow(x, "open()", x.open(), 0);
        });
        edges.edge(0, "(each HEDGE just once", () -> {
            NoHedgeTwice x = Check.landed("@00;@30;ab5:00");
            x.set(2, 0, 0);
            check.due("round() of one HEDGE, no NIGHTS", x.round(), -2);
            check.dueRow(x, "trail(0) of one HEDGE, no NIGHTS", x.trail(0), 5, 0);
        });
    }

    // ---- promises 19 and 20

    private static void odd() {
        edges.edge(19, "CORNERS at which an odd number of HEDGES begin or end: how many; the ROW: they (bits).", () -> {
            NoHedgeTwice x = new NoHedgeTwice();
            check.dueRow(x, "odd() of a new object", x.odd(), 0, 0);
            x = Check.landed(TEN);
            check.dueRow(x, "odd() without HEDGES", x.odd(), 0, 0);
            x = landed(STAR);
            check.dueRow(x, "odd() of all ten", x.odd(), 10, 1023);
            x = landed("ab1:00;ij1:00");
            check.dueRow(x, "odd() of the first and the last", x.odd(), 4, 3 | 3 << 8);
        });
        edges.edge(19, "an odd number", () -> {
            NoHedgeTwice x = Check.landed(TEN);
            for (int hedges = 1; hedges <= 14; hedges++) {
                Check.land(x, "ba1:00");
                boolean is = hedges % 2 == 1;
                check.dueRow(x, "odd() of " + hedges, x.odd(), is ? 2 : 0, is ? 3 : 0);
            }
        });
    }

    private static void men() {
        edges.edge(20, "The fewest who can walk each HEDGE just once between them, each anywhere: how many", () -> {
            NoHedgeTwice x = new NoHedgeTwice();
            check.dueRow(x, "men() of a new object", x.men(), 0, 0);
            x = Check.landed(TEN);
            check.dueRow(x, "men() without HEDGES", x.men(), 0, 0);
            x = landed("ij1:00");
            check.dueRow(x, "men() of one HEDGE", x.men(), 1, 1);
            x = landed("ij1:00;ij1:00");
            check.dueRow(x, "men() of a round", x.men(), 1, 1);
            x = landed("ij1:00;ij1:00;ij1:00");
            check.dueRow(x, "men() of two odd CORNERS", x.men(), 1, 1);
            x = landed("ab1:00;ac1:00;ad1:00");
            check.dueRow(x, "men() of four odd CORNERS", x.men(), 2, 1);
            x = landed(STAR);
            check.dueRow(x, "men() of ten odd CORNERS", x.men(), 5, 1);
        });
        edges.edge(20, "in how many parts HEDGES hang together", () -> {
            NoHedgeTwice x = landed(FIVE_PARTS);
            check.dueRow(x, "men() of five parts", x.men(), 5, 5);
            Check.land(x, FIVE_PARTS);
            check.dueRow(x, "men() of five rounds", x.men(), 5, 5);
            Check.land(x, "ja1:00");
            check.dueRow(x, "men() where two have become one", x.men(), 4, 4);
            x = landed("bc1:00;bd1:00;be1:00;hi1:00;hi1:00");
            check.dueRow(x, "men() of a star and a round", x.men(), 3, 2);
        });
    }

    // ---- promise 21

    private static void trail() {
        edges.edge(21, "NONE: none such", () -> {
            for (int c : new int[] {-1, 5, 10, MIN, MAX}) {
                Twins.unchanged(check, "trail(" + c + ")", Twins::busy, x -> x.trail(c), -1);
            }
            check.due("trail(0) of a new object", new NoHedgeTwice().trail(0), -1);
        });
        edges.edge(21, "All HEDGES walked one behind the other from a CORNER: minutes; the ROW: HEDGES in order", () -> {
            NoHedgeTwice x = Check.landed(TEN);
            x.odd();
            check.dueRow(x, "trail(0) without HEDGES", x.trail(0), 0);
            check.dueRow(x, "trail(9) without HEDGES", x.trail(9), 0);
            x = landed("ij5:00~4");
            check.dueRow(x, "trail(8)", x.trail(8), 5, 0);
            check.dueRow(x, "trail(9), against the wind", x.trail(9), 9, 0);
            x = landed(SEVEN);
            Check.land(x, SEVEN);
            check.dueRow(x, "trail(1) of 14", x.trail(1), 14, 0, 1, 2, 3, 4, 5, 6, 7, 8, 9, 10, 11, 12, 13);
        });
    }

    private static void trailThatCannot() {
        edges.edge(21, "-2: it can't be", () -> {
            cannotTrail("four odd CORNERS", "ab1:00;ac1:00;ad1:00", 0);
            cannotTrail("begun at the end of one of them", "ab1:00;ac1:00;ad1:00", 1);
            cannotTrail("two parts", "ab1:00;cd1:00", 0);
            cannotTrail("two rounds", "ab1:00;ab1:00;cd1:00;cd1:00", 0);
            cannotTrail("begun at a CORNER that is not odd", "ab1:00;bc1:00", 1);
            cannotTrail("begun at a CORNER without HEDGES", "ab1:00;bc1:00;ca1:00", 3);
            cannotTrail("begun in the other part", "ab1:00;bc1:00;ca1:00", 9);
        });
        edges.edge(21, "-2: it can't be", () -> {
            NoHedgeTwice x = landed("ab1:00;bc1:00");
            check.dueRow(x, "trail(0), begun at an odd CORNER", x.trail(0), 2, 0, 1);
            check.dueRow(x, "trail(2), begun at the other one", x.trail(2), 2, 1, 0);
            Check.land(x, "ca1:00");
            for (int c = 0; c < 3; c++) {
                check.due("trail(" + c + ") of a round", x.trail(c), 3);
            }
        });
    }

    private static void cannotTrail(String name, String hedges, int corner) {
        Twins.unchanged(check, "trail(" + corner + "): " + name, () -> {
            NoHedgeTwice x = landed(hedges);
            x.odd();
            return x;
        }, x -> x.trail(corner), -2);
    }

    private static void trailOfLeastRow() {
        edges.edge(21, "the least row", () -> {
            NoHedgeTwice x = landed("ab5:00~9;bc5:00;ca5:00");
            check.dueRow(x, "trail(1): not the fewest minutes", x.trail(1), 24, 0, 2, 1);
            x = landed("ab1:00;ac1:00;ca1:00;ad1:00");
            check.dueRow(x, "trail(1)", x.trail(1), 4, 0, 1, 2, 3);
            check.dueRow(x, "trail(3)", x.trail(3), 4, 3, 1, 2, 0);
            x = landed("ab1:00;ac1:00;ca1:00");
            check.dueRow(x, "trail(0): HEDGE 0 would cut the others off", x.trail(0), 3, 1, 2, 0);
        });
        edges.edge(0, "Rows are compared from the first number on.", () -> {
            NoHedgeTwice x = landed("cd1:00;ab1:00;da1:00;bc1:00");
            check.dueRow(x, "trail(0)", x.trail(0), 4, 1, 3, 0, 2);
            check.dueRow(x, "trail(2)", x.trail(2), 4, 0, 2, 1, 3);
        });
    }

    // ---- promise 22

    private static void round() {
        edges.edge(22, "The fewest minutes for a round of all HEDGES back to where it began: how many", () -> {
            NoHedgeTwice x = new NoHedgeTwice();
            check.dueRow(x, "round() of a new object", x.round(), 0, 0);
            x = Check.landed(TEN);
            check.dueRow(x, "round() without HEDGES", x.round(), 0, 0);
            x = landed("ab5:00~9;bc5:00;ca5:00");
            check.dueRow(x, "round() with the wind", x.round(), 15, 0);
            x.set(1, 1, 9);
            x.set(1, 2, 9);
            check.dueRow(x, "round() with all winds", x.round(), 15, 0);
            x = landed("ba5:00~9;bc5:00~9;ca5:00~8");
            check.dueRow(x, "round() against one wind rather than two", x.round(), 24, 1);
            x = landed("ba5:00~9;cb5:00~8;ca5:00~7");
            check.dueRow(x, "round() against a weaker wind", x.round(), 22, 4);
        });
        edges.edge(22, "of equal ones the least number", () -> {
            NoHedgeTwice x = landed(SEVEN);
            Check.land(x, SEVEN);
            check.dueRow(x, "round() of 14 alike", x.round(), 14, 127);
            for (int h = 0; h < 7; h++) {
                x.set(1, h, 9);
            }
            check.dueRow(x, "round() of 14, no wind on the last", x.round(), 14, 127 << 7);
            x = landed("ba5:00~3;bc5:00~1;ca5:00~2");
            check.dueRow(x, "round(): HEDGE 0 rather than 1, 2", x.round(), 18, 1);
            x = landed("ab5:00~3;bc5:00~3;ac5:00~6");
            check.dueRow(x, "round(): HEDGES 0, 1 rather than 2", x.round(), 21, 3);
        });
    }

    private static void roundThatCannot() {
        edges.edge(22, "-2: it can't be", () -> {
            String[] hedges = {"ab1:00", "ab1:00;bc1:00", "ab1:00;ab1:00;cd1:00;cd1:00", STAR, FIVE_PARTS};
            for (String some : hedges) {
                Twins.unchanged(check, "round() of " + some, () -> {
                    NoHedgeTwice x = landed(some);
                    x.odd();
                    return x;
                }, x -> x.round(), -2);
            }
            NoHedgeTwice x = landed("hi1:00;ij1:00;jh1:00");
            check.dueRow(x, "round() that leaves CORNERS without HEDGES", x.round(), 3, 0);
        });
    }

    // ---- promises 23 and 24

    private static void closed() {
        edges.edge(23, "-2: they do not hang together (without HEDGES 0)", () -> {
            NoHedgeTwice x = new NoHedgeTwice();
            check.dueRow(x, "closed() of a new object", x.closed(), 0);
            x = Check.landed(TEN);
            check.dueRow(x, "closed() without HEDGES", x.closed(), 0);
            for (String some : new String[] {"ab1:00;cd1:00", "ab1:00;ab1:00;cd1:00;cd1:00", FIVE_PARTS}) {
                Twins.unchanged(check, "closed() of " + some, () -> {
                    NoHedgeTwice y = landed(some);
                    y.odd();
                    return y;
                }, y -> y.closed(), -2);
            }
        });
        edges.edge(23, "The least GRASS", () -> {
            NoHedgeTwice x = landed("hi1:00;ij1:00;jh1:00");
            x.odd();
            check.dueRow(x, "closed() of a round", x.closed(), 0);
            x = landed("ij1:00");
            check.dueRow(x, "closed() of one HEDGE", x.closed(), 2, 8, 9);
            x = Check.landed("@00;@99;ba1:00");
            check.dueRow(x, "closed() over the most GRASS", x.closed(), 36, 0, 1);
            x = Check.landed("@55;@55;ab1:00");
            check.dueRow(x, "closed() at one PLACE", x.closed(), 0, 0, 1);
        });
    }

    private static void closedPairs() {
        edges.edge(23, "each CORNER in one pair at most", () -> {
            NoHedgeTwice x = landed(STAR);
            check.dueRow(x, "closed() of ten odd CORNERS", x.closed(), 10, 0, 1, 2, 3, 4, 5, 6, 7, 8, 9);
            x = Check.landed("@00;@10;@20;@50;@90;eb1:00;ec1:00;ed1:00;ea1:00");
            check.dueRow(x, "closed() of four", x.closed(), 8, 0, 1, 2, 3);
        });
        edges.edge(23, "the ROW: the pairs (a below b each, by a): of as little the least row", () -> {
            NoHedgeTwice x = Check.landed("@00;@02;@20;@22;@11;ea1:00;eb1:00;ec1:00;ed1:00");
            check.dueRow(x, "closed() of a square", x.closed(), 8, 0, 1, 2, 3);
            x = Check.landed("@00;@99;@01;@98;@11;ea1:00;eb1:00;ec1:00;ed1:00");
            check.dueRow(x, "closed() of the first and the third", x.closed(), 4, 0, 2, 1, 3);
            x = Check.landed("@00;@99;@98;@01;@11;ea1:00;eb1:00;ec1:00;ed1:00");
            check.dueRow(x, "closed() of the first and the last", x.closed(), 4, 0, 3, 1, 2);
            x = Check.landed("@44;@44;@44;@44;@11;ea1:00;eb1:00;ec1:00;ed1:00");
            check.dueRow(x, "closed() of one PLACE", x.closed(), 0, 0, 1, 2, 3);
        });
    }

    private static void open() {
        edges.edge(24, "two of the odd CORNERS are in no pair, if there are any", () -> {
            NoHedgeTwice x = new NoHedgeTwice();
            check.dueRow(x, "open() of a new object", x.open(), 0);
            x = Check.landed(TEN);
            x.odd();
            check.dueRow(x, "open() without HEDGES", x.open(), 0);
            x = landed("hi1:00;ij1:00;jh1:00");
            x.odd();
            check.dueRow(x, "open() of none odd", x.open(), 0);
            x = landed("ai1:00");
            x.odd();
            check.dueRow(x, "open() of two odd", x.open(), 0);
            x = Check.landed("@55;@55;ab1:00");
            x.odd();
            check.dueRow(x, "open() of two odd at one PLACE", x.open(), 0);
            x = Check.landed("@44;@44;@44;@44;@11;ea1:00;eb1:00;ec1:00;ed1:00");
            check.dueRow(x, "open() of four odd at one PLACE", x.open(), 0, 0, 1);
            x = landed("ab1:00;ac1:00;ad1:00");
            check.dueRow(x, "open() of four odd", x.open(), 2, 0, 1);
            x = landed(STAR);
            check.dueRow(x, "open() of ten odd", x.open(), 8, 0, 1, 2, 3, 4, 5, 6, 7);
        });
    }

    private static void openPairs() {
        edges.edge(24, "The same, if one may end elsewhere than one began", () -> {
            String star = ";@11;ea1:00;eb1:00;ec1:00;ed1:00";
            NoHedgeTwice x = Check.landed("@00;@90;@55;@56" + star);
            check.dueRow(x, "open(): the first two in no pair", x.open(), 2, 2, 3);
            x = Check.landed("@00;@55;@56;@90" + star);
            check.dueRow(x, "open(): the first and the last in none", x.open(), 2, 1, 2);
            x = Check.landed("@55;@00;@90;@56" + star);
            check.dueRow(x, "open(): the middle ones in none", x.open(), 2, 0, 3);
            x = Check.landed("@00;@02;@20;@22" + star);
            check.dueRow(x, "open(): of as little the least row", x.open(), 4, 0, 1);
        });
        edges.edge(0, "Rows are compared from the first number on.", () -> {
            NoHedgeTwice x = Check.landed("@00;@90;@01;@91;@99;@98;@55", "ga1:00;gb1:00;gc1:00;gd1:00;ge1:00;gf1:00");
            check.dueRow(x, "open() of six: pairs 02, 13, 45 cost as much, two of them are taken", x.open(), 4, 0, 2, 1, 3);
            check.dueRow(x, "closed() of six", x.closed(), 6, 0, 2, 1, 3, 4, 5);
            x = Check.landed("@00;@90;@44;@66;@45;@67;@55", "ga1:00;gb1:00;gc1:00;gd1:00;ge1:00;gf1:00");
            check.dueRow(x, "open() of six: the first two in no pair, 24 and 35", x.open(), 4, 2, 4, 3, 5);
            x = Check.landed("@00;@44;@66;@45;@67;@90;@55", "ga1:00;gb1:00;gc1:00;gd1:00;ge1:00;gf1:00");
            check.dueRow(x, "open() of six: the first and the last in no pair", x.open(), 4, 1, 3, 2, 4);
        });
    }

    private static void apart() {
        edges.edge(24, "-2 likewise", () -> {
            for (String some : new String[] {"ab1:00;cd1:00", "ab1:00;ab1:00;cd1:00;cd1:00", FIVE_PARTS}) {
                Twins.unchanged(check, "open() of " + some, () -> {
                    NoHedgeTwice y = landed(some);
                    y.odd();
                    return y;
                }, y -> y.open(), -2);
            }
        });
    }
}
