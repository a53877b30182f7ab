/** Promises 1 to 8 and what term 1 says of a land: each sentence that names an edge, by itself. */
public final class LandEdges {
    private static final Edges edges = new Edges();
    private static final Check check = edges.check;
    private static final int MIN = Integer.MIN_VALUE;
    private static final int MAX = Integer.MAX_VALUE;

    private static final String TWO = "@00;@30";
    private static final String NINE = "@00;@01;@02;@03;@04;@05;@06;@07;@08";
    private static final int MOST_SIGNS = 76;

    public static void main(String[] args) {
        corners();
        hedges();
        hedgeDigits();
        lines();
        walkerAtFirst();
        newObject();
        sign();
        end();
        landThatIsEmpty();
        landThatEndsEarly();
        landOf76();
        landOfMore();
        landLetters();
        landLong();
        landWithoutRoom();
        landThatCannot();
        hedge();
        grass();
        setDigits();
        setNightsAndFrost();
        sheetKinds();
        sheetEntries();
        sheetOfMissing();
        edges.close(0, 8);
    }

    private static void land(NoHedgeTwice x, String text, int want) {
        check.due("land() of " + text, Check.land(x, text), want);
        check.due("signs behind land() of " + text, x.count(7), 0);
    }

    private static void size(NoHedgeTwice x, int corners, int hedges) {
        check.due("CORNERS", x.count(0), corners);
        check.due("HEDGES", x.count(1), hedges);
    }

    private static void told(NoHedgeTwice x, int h, int... want) {
        for (int what = 0; what < want.length; what++) {
            check.due("hedge(" + h + ", " + what + ")", x.hedge(h, what), want[what]);
        }
    }

    private static void longs(NoHedgeTwice x, int... want) {
        check.due("HEDGES", x.count(1), want.length);
        for (int h = 0; h < want.length; h++) {
            check.due("LONG of HEDGE " + h, x.hedge(h, 2), want[h]);
        }
    }

    private static String hedgesOf(int n) {
        return "ab1:00;".repeat(n).substring(0, 7 * n - 1);
    }

    private static NoHedgeTwice withHedges(int n) {
        NoHedgeTwice x = Check.landed(TWO);
        for (int left = n; left > 0; left -= 10) {
            land(x, hedgesOf(Math.min(left, 10)), Math.min(left, 10));
        }
        return x;
    }

    /** So many signs: whole LINES of HEDGES from a to b, a ; behind each. */
    private static String padded(int signs) {
        StringBuilder text = new StringBuilder();
        for (int left = signs; left > 0;) {
            int take = left < 14 ? left : Math.min(12, Math.max(7, left - 7 * (left / 7 - 1)));
            text.append("ab1:00").append(new String[] {"", "g", "w1", "w1g", "w1~1", "w1~1g"}[take - 7]).append(';');
            left -= take;
        }
        check.due("signs of the test's own text", text.length(), signs);
        return text.toString();
    }

    // ---- term 1

    private static void corners() {
        edges.edge(0, "CORNERS 0 .. (at most 10; written a .. j)", () -> {
            NoHedgeTwice x = Check.landed(NINE);
            land(x, "aj1:00", -2);
            land(x, "@09", 1);
            size(x, 10, 0);
            land(x, "@99", -1);
            land(x, "aj1:00;ja1:00", 2);
            land(x, "ak1:00", -2);
            land(x, "ka1:00", -1);
            size(x, 10, 2);
        });
        edges.edge(0, "a PLACE x, y (0 .. 9 each)", () -> {
            NoHedgeTwice x = Check.landed("@09;@90;@00;@99");
            check.due("grass(0, 1)", x.grass(0, 1), 36);
            check.due("grass(2, 3)", x.grass(2, 3), 36);
            land(x, "@/0", -2);
            land(x, "@:0", -2);
            land(x, "@0/", -3);
            land(x, "@0:", -3);
            size(x, 4, 0);
        });
        edges.edge(0, "2 times (how far their x, and their y, are apart, together) minutes", () -> {
            NoHedgeTwice x = Check.landed("@00;@00;@01;@10;@92;@29");
            check.due("grass of one PLACE", x.grass(0, 1), 0);
            check.due("grass of y alone", x.grass(0, 2), 2);
            check.due("grass of x alone", x.grass(0, 3), 2);
            check.due("grass of x less and y more", x.grass(4, 5), 28);
            check.due("grass of x more and y less", x.grass(5, 4), 28);
        });
    }

    private static void hedges() {
        edges.edge(0, "HEDGES 0 .. (at most 14; written A .. N)", () -> {
            NoHedgeTwice x = withHedges(13);
            check.due("tour(0) of aN", Check.tour(x, 0, "aN"), -2);
            land(x, "ab7:00", 1);
            size(x, 2, 14);
            check.due("tour(0) of aN", Check.tour(x, 0, "aN"), 7);
            land(x, "ab1:00", -1);
            size(x, 2, 14);
            check.due("tour(0) of aO", Check.tour(x, 0, "aO"), -2);
        });
        edges.edge(0, "from a CORNER (its first) to another one", () -> {
            NoHedgeTwice x = Check.landed(TWO, "ab1:00;ba1:00");
            told(x, 0, 0, 1);
            told(x, 1, 1, 0);
            land(x, "aa1:00", -2);
            land(x, "bb1:00", -2);
            size(x, 2, 2);
        });
        edges.edge(0, "LONG 1 .. 20", () -> {
            NoHedgeTwice x = Check.landed(TWO, "ab1:00;ab20:00;ab19:00;ab10:00;ab9:00");
            longs(x, 1, 20, 19, 10, 9);
            land(x, "ab0:00", -3);
            land(x, "ab21:00", -4);
            land(x, "ab30:00", -4);
            land(x, "ab99:00", -4);
            size(x, 2, 5);
        });
        edges.edge(0, "LONG (1 or 2 digits)", () -> {
            NoHedgeTwice x = Check.landed(TWO, "ab01:00;ab09:00;ab2:00;ab12:00");
            longs(x, 1, 9, 2, 12);
            land(x, "ab:00", -3);
            land(x, "ab/:00", -3);
            land(x, "ab111:00", -5);
            land(x, "ab011:00", -5);
            land(x, "ab1/:00", -4);
            size(x, 2, 4);
        });
    }

    private static void hedgeDigits() {
        edges.edge(0, "LEFT and RIGHT (FIELDS 0 .. 5", () -> {
            NoHedgeTwice x = Check.landed(TWO, "ab1:05;ab1:50;ab1:55;ab1:00");
            told(x, 0, 0, 1, 1, 0, 5);
            told(x, 1, 0, 1, 1, 5, 0);
            told(x, 2, 0, 1, 1, 5, 5);
            told(x, 3, 0, 1, 1, 0, 0);
            land(x, "ab1:60", -5);
            land(x, "ab1:/0", -5);
            land(x, "ab1:06", -6);
            land(x, "ab1:0/", -6);
            size(x, 2, 4);
        });
        edges.edge(0, "WORTH 0 .. 9, WIND 0 .. 9", () -> {
            NoHedgeTwice x = Check.landed(TWO, "ab1:00w0~0;ab1:00w9~9");
            told(x, 0, 0, 1, 1, 0, 0, 0, 0, 0);
            told(x, 1, 0, 1, 1, 0, 0, 9, 9, 0);
            land(x, "ab1:00w/", -8);
            land(x, "ab1:00w:", -8);
            land(x, "ab1:00w10", -9);
            land(x, "ab1:00~/", -8);
            land(x, "ab1:00~:", -8);
            land(x, "ab1:00~10", -9);
            size(x, 2, 2);
        });
        edges.edge(0, "perhaps w and a digit (WORTH, else 1)", () -> {
            NoHedgeTwice x = Check.landed(TWO, "ab1:00;ab1:00~3g");
            told(x, 0, 0, 1, 1, 0, 0, 1);
            told(x, 1, 0, 1, 1, 0, 0, 1);
            land(x, "ab1:00w", -8);
            land(x, "ab1:00wg", -8);
            land(x, "ab1:00w1w1", -9);
        });
        edges.edge(0, "perhaps ~ and a digit (WIND, else 0)", () -> {
            NoHedgeTwice x = Check.landed(TWO, "ab1:00;ab1:00w3g");
            told(x, 0, 0, 1, 1, 0, 0, 1, 0);
            told(x, 1, 0, 1, 1, 0, 0, 3, 0);
            land(x, "ab1:00~", -8);
            land(x, "ab1:00~g", -8);
            land(x, "ab1:00~1~1", -9);
            land(x, "ab1:00~1w1", -9);
        });
        edges.edge(0, "perhaps g (GATE)", () -> {
            NoHedgeTwice x = Check.landed(TWO, "ab1:00;ab1:00g;ab1:00w2g;ab1:00~2g;ab1:00w2~3g");
            for (int h = 0; h < 5; h++) {
                check.due("hedge(" + h + ", 7)", x.hedge(h, 7), h == 0 ? 0 : 1);
            }
            land(x, "ab1:00gg", -8);
            land(x, "ab1:00gw1", -8);
            land(x, "ab1:00g~1", -8);
        });
    }

    private static void lines() {
        edges.edge(0, "LINES with ; between", () -> {
            NoHedgeTwice x = Check.landed(TWO);
            land(x, "@11;ab1:00;@22", 3);
            land(x, ";", -1);
            land(x, ";@00", -1);
            land(x, "@00;;@00", -5);
            land(x, "@00@00", -4);
            land(x, "5:00", -1);
            land(x, ":00", -1);
            land(x, "a5:00", -2);
            land(x, "a:00", -2);
            land(x, "ab1:00ab1:00", -7);
            land(x, "@00,@00", -4);
            size(x, 4, 1);
        });
        edges.edge(0, "two CORNERS that are there", () -> {
            NoHedgeTwice x = Check.landed("@00");
            land(x, "ab1:00", -2);
            land(x, "ba1:00", -1);
            land(x, "ab1:00;@11", -2);
            land(x, "@11;ab1:00", 2);
            size(x, 2, 1);
        });
        edges.edge(0, "a text of at most 76 signs", () -> {
            NoHedgeTwice x = Check.landed(TWO);
            land(x, padded(70) + "ab1:00", 11);
            size(x, 2, 11);
            x = Check.landed(TWO);
            land(x, padded(70) + "ab1:00g", -77);
            size(x, 2, 0);
        });
    }

    private static void walkerAtFirst() {
        edges.edge(0, "THE WALKER is at a CORNER (at first 0; from the first text on)", () -> {
            NoHedgeTwice x = new NoHedgeTwice();
            check.due("count(2)", x.count(2), -1);
            x.rest(1);
            land(x, "x", -1);
            check.due("count(2) behind a text that can't stand", x.count(2), -1);
            land(x, "@55", 1);
            check.due("count(2) from the first text on", x.count(2), 0);
            land(x, "@66;ab1:00", 2);
            x.walk(0);
            land(x, "@77", 1);
            check.due("count(2) behind a later text", x.count(2), 1);
        });
        edges.edge(0, "TIME is 0 minutes", () -> {
            NoHedgeTwice x = new NoHedgeTwice();
            check.due("count(3)", x.count(3), 0);
            land(x, TWO + ";ab5:00", 3);
            check.due("count(3) behind the first text", x.count(3), 0);
            x.walk(0);
            land(x, "@11", 1);
            check.due("count(3) behind a later text", x.count(3), 5);
        });
    }

    // ---- promises 1 to 3

    private static void newObject() {
        edges.edge(1, "No CORNERS.", () -> {
            NoHedgeTwice x = new NoHedgeTwice();
            int[] want = {0, 0, -1, 0, 0, 0, 0, 0, 9, 600};
            for (int what = 0; what < want.length; what++) {
                check.due("count(" + what + ")", x.count(what), want[what]);
            }
            check.due("grass(0, 0)", x.grass(0, 0), -1);
            check.due("go(0)", x.go(0), false);
            check.due("can()", x.can(), 0);
            check.due("trail(0)", x.trail(0), -1);
            check.due("gates(0)", x.gates(0), -1);
            check.due("look(0)", x.look(0), -3);
            check.due("look(1)", x.look(1), -3);
            for (int i = 0; i < 3; i++) {
                check.due("again(" + i + ")", x.again(i), false);
            }
            check.noSuch("hedge(0, 0)", () -> x.hedge(0, 0));
            check.noSuch("reach(-1)", () -> x.reach(-1));
            check.noSuch("row(0)", () -> x.row(0));
        });
        edges.edge(1, "No CORNERS.", () -> {
            NoHedgeTwice used = Check.landed(TWO, "ab1:00");
            used.walk(0);
            used.keep(0);
            NoHedgeTwice x = new NoHedgeTwice();
            size(x, 0, 0);
            check.due("again(0) of what another object kept", x.again(0), false);
            size(used, 2, 1);
        });
    }

    private static void sign() {
        edges.edge(2, "Four signs come behind THE TEXT, of v the highest byte first: how many it has.", () -> {
            NoHedgeTwice x = new NoHedgeTwice();
            check.due("sign, the first", x.sign('@' << 24 | '1' << 16 | '2' << 8 | ';'), 4);
            check.due("sign, the second", x.sign('@' << 24 | '3' << 16 | '4' << 8 | 'x'), 8);
            x.end(7);
            check.due("land()", x.land(), 2);
            check.due("grass(0, 1)", x.grass(0, 1), 8);
        });
        edges.edge(2, "of v the highest byte first", () -> {
            for (int v : new int[] {0, -1, MIN, MAX}) {
                NoHedgeTwice x = new NoHedgeTwice();
                check.due("sign(" + v + ")", x.sign(v), 4);
                check.due("land() of bytes 0, 127, 128, 255", x.land(), -1);
            }
            NoHedgeTwice x = Check.landed("@00");
            x.sign('@' << 24 | '0' << 16 | ('0' | 128) << 8);
            check.due("land(), a sign with the highest bit too", x.land(), -3);
        });
        edges.edge(2, "Refused: there would be more than 80.", () -> {
            NoHedgeTwice x = new NoHedgeTwice();
            for (int k = 1; k <= 20; k++) {
                check.due("sign, " + k, x.sign(0), 4 * k);
            }
            for (int length = 77; length <= 80; length++) {
                int signs = length;
                Twins.unchanged(check, "sign behind " + length, () -> full(signs), y -> y.sign(0x61616161), -1);
            }
            check.due("sign behind 76", full(76).sign(0x61616161), 80);
        });
    }

    /** THE TEXT has so many signs, the first of them a CORNER that is there. */
    private static NoHedgeTwice full(int signs) {
        NoHedgeTwice x = Twins.busy();
        x.end(0);
        Check.say(x, "a" + "A".repeat(79));
        x.end(signs);
        return x;
    }

    private static void end() {
        edges.edge(3, "THE TEXT has its first n signs alone: true", () -> {
            NoHedgeTwice x = Check.landed(TWO);
            Check.say(x, "@99;ab1:00");
            check.due("end, all of them", x.end(10), true);
            check.due("count(7)", x.count(7), 10);
            check.due("end, one less", x.end(9), true);
            check.due("count(7)", x.count(7), 9);
            check.due("end, of the first LINE", x.end(3), true);
            check.due("land()", x.land(), 1);
            check.due("PLACE that came", x.grass(0, 2), 36);
        });
        edges.edge(3, "THE TEXT has its first n signs alone: true", () -> {
            NoHedgeTwice x = new NoHedgeTwice();
            check.due("end(0) of an empty text", x.end(0), true);
            x.sign(-1);
            check.due("end(0)", x.end(0), true);
            check.due("count(7)", x.count(7), 0);
            check.due("land()", x.land(), 0);
        });
        edges.edge(3, "false if it has not so many", () -> {
            Twins.unchanged(check, "end(3) of 2", Twins::busy, x -> Twins.is(x.end(3)), 0);
            Twins.unchanged(check, "end(MAX)", Twins::busy, x -> Twins.is(x.end(MAX)), 0);
            check.due("end(1) of an empty text", new NoHedgeTwice().end(1), false);
            check.due("end(81) of 80", full(80).end(81), false);
            check.due("end(80) of 80", full(80).end(80), true);
        });
        edges.edge(3, "or n is below 0", () -> {
            Twins.unchanged(check, "end(-1)", Twins::busy, x -> Twins.is(x.end(-1)), 0);
            Twins.unchanged(check, "end(MIN)", Twins::busy, x -> Twins.is(x.end(MIN)), 0);
        });
    }

    // ---- promise 4

    private static void landThatIsEmpty() {
        edges.edge(4, "(an empty one: nothing)", () -> {
            Twins.textAlone(check, "land() of nothing", LandEdges::withoutText, x -> x.land(), 0);
            check.due("land() of a new object", new NoHedgeTwice().land(), 0);
        });
        edges.edge(4, "behind what there is", () -> {
            NoHedgeTwice x = Check.landed(TWO, "ab5:12w3~4g");
            land(x, "@99;bc6:00", 2);
            told(x, 0, 0, 1, 5, 1, 2, 3, 4, 1, 1);
            told(x, 1, 1, 2, 6, 0, 0, 1, 0, 0, 1);
            check.due("grass(0, 1)", x.grass(0, 1), 6);
        });
        edges.edge(4, "how many LINES", () -> {
            NoHedgeTwice x = Check.landed(TWO);
            land(x, "@11", 1);
            land(x, "ab1:00", 1);
            land(x, "@11;@11;@11;@11;@11;@11;@11;ab1:00;ab1:00;ab1:00;ab1:00;ab1:00;ab1:00", 13);
            size(x, 10, 7);
        });
    }

    private static NoHedgeTwice withoutText() {
        NoHedgeTwice x = Twins.busy();
        x.end(0);
        return x;
    }

    private static void landThatEndsEarly() {
        edges.edge(4, "(its end, if it ends too early", () -> {
            NoHedgeTwice x = Check.landed(TWO);
            String line = "ab12:34w5~6g";
            for (int n : new int[] {1, 2, 3, 4, 5, 6, 8, 10}) {
                land(x, line.substring(0, n), -1 - n);
                land(x, "@00;" + line.substring(0, n), -5 - n);
            }
            land(x, "@", -2);
            land(x, "@0", -3);
            land(x, "@00;", -5);
            land(x, line + ";", -14);
            size(x, 2, 0);
        });
        edges.edge(4, "(its end, if it ends too early", () -> {
            NoHedgeTwice x = Check.landed(TWO);
            String line = "ab12:34w5~6g";
            for (int n : new int[] {7, 9, 11, 12}) {
                land(x, line.substring(0, n), 1);
            }
            size(x, 2, 4);
        });
        edges.edge(4, "(its end, if it ends too early", () -> {
            NoHedgeTwice x = Check.landed(TWO);
            land(x, padded(76), -77);
            land(x, padded(74) + "@0", -77);
            land(x, padded(73) + "ab1", -77);
            size(x, 2, 0);
        });
    }

    private static void landOf76() {
        String tail = "ab12:34w5~6g;@";
        edges.edge(4, "76, if it has more and the first 76 could go on or end", () -> {
            NoHedgeTwice x = Check.landed(TWO);
            for (int k = 0; k <= 13; k++) {
                String first = padded(MOST_SIGNS - k) + tail.substring(0, k);
                land(x, first + tail.charAt(k), -77);
                land(x, first + "x", -77);
                land(x, first + "xxxx", -77);
            }
            size(x, 2, 0);
        });
        edges.edge(4, "76, if it has more and the first 76 could go on or end", () -> {
            for (int k = 0; k <= 13; k++) {
                NoHedgeTwice x = Check.landed(TWO);
                String first = padded(MOST_SIGNS - k) + tail.substring(0, k);
                boolean ends = k == 7 || k == 9 || k == 11 || k == 12;
                int count = (int) first.chars().filter(sign -> sign == ';').count() + 1;
                land(x, first, ends ? count : -77);
                size(x, 2, ends ? count : 0);
            }
        });
    }

    private static void landOfMore() {
        edges.edge(4, "76, if it has more and the first 76 could go on or end", () -> {
            NoHedgeTwice x = Check.landed(TWO);
            land(x, "x" + padded(76), -1);
            land(x, padded(75) + "xab1", -76);
            land(x, padded(70) + "ab1:0xab1", -76);
            land(x, padded(68) + "ab1:00gg", -76);
            land(x, padded(68) + "ab1:00gg;", -76);
            land(x, padded(69) + "ab1:00ggg", -77);
            land(x, padded(70) + "ab1:60w1w1", -75);
            size(x, 2, 0);
        });
        edges.edge(4, "76, if it has more and the first 76 could go on or end", () -> {
            NoHedgeTwice x = Check.landed(TWO);
            Check.say(x, padded(70) + "ab1:00" + "\0\0\0\0");
            check.due("count(7)", x.count(7), 80);
            check.due("land() of 80 signs", x.land(), -77);
            Check.say(x, padded(70) + "ab1:00" + "\0\0\0\0");
            x.end(76);
            check.due("land() of their first 76", x.land(), 11);
        });
    }

    private static void landLetters() {
        edges.edge(4, "a CORNER that is not there, or the same as the first one: at its letter", () -> {
            NoHedgeTwice x = Check.landed("@00;@30;@34");
            land(x, "da1:00", -1);
            land(x, "`a1:00", -1);
            land(x, "ja1:00", -1);
            land(x, "ka1:00", -1);
            land(x, "ad1:00", -2);
            land(x, "a`1:00", -2);
            land(x, "aj1:00", -2);
            land(x, "aA1:00", -2);
            land(x, "a11:00", -2);
            land(x, "cc1:00", -2);
            land(x, "ab1:00;cd1:00", -9);
            land(x, "ab1:00;dc1:00", -8);
            land(x, "dd1:00", -1);
            size(x, 3, 0);
            land(x, "ca1:00;ac1:00", 2);
        });
        edges.edge(4, "at its letter", () -> {
            NoHedgeTwice x = Check.landed(TWO);
            land(x, padded(75) + "cb1:0", -76);
            land(x, padded(74) + "ac1:00", -76);
            land(x, padded(74) + "aa1:00", -76);
            land(x, padded(75) + "ac1:0", -77);
            land(x, padded(75) + "aa1:0", -77);
        });
    }

    private static void landLong() {
        edges.edge(4, "a LONG of 0, 21 and more, as far as it stands in the first 76: at its last digit", () -> {
            NoHedgeTwice x = Check.landed(TWO);
            land(x, "ab0:00", -3);
            land(x, "ab00:00", -4);
            land(x, "ab21:00", -4);
            land(x, "ab99:00", -4);
            land(x, "ab0", -3);
            land(x, "ab00", -4);
            land(x, "ab21", -4);
            land(x, "ab0x", -3);
            land(x, "ab21x", -4);
            land(x, "ab000:00", -4);
            land(x, "ab210:00", -4);
            land(x, "ab20x", -5);
            size(x, 2, 0);
        });
        edges.edge(4, "as far as it stands in the first 76", () -> {
            NoHedgeTwice x = Check.landed(TWO);
            land(x, padded(73) + "ab0:00", -76);
            land(x, padded(73) + "ab05:00", -76);
            land(x, padded(73) + "ab21:00", -77);
            land(x, padded(73) + "ab99:00", -77);
            land(x, padded(72) + "ab21:00", -76);
            land(x, padded(72) + "ab00:00", -76);
            land(x, padded(72) + "ab05:00", -77);
            land(x, padded(72) + "ab20:00", -77);
            land(x, padded(72) + "ab21", -76);
            size(x, 2, 0);
        });
    }

    private static void landWithoutRoom() {
        edges.edge(4, "the first sign of a LINE for which there is no room", () -> {
            NoHedgeTwice x = Check.landed(NINE);
            land(x, "@11;@22", -5);
            land(x, "ab1:00;@11;@22;ab1:00", -12);
            size(x, 9, 0);
            land(x, "@11", 1);
            land(x, "@22", -1);
            land(x, "@", -1);
            land(x, "@xx", -1);
            land(x, "ab1:00;@22", -8);
            land(x, "ab1:00", 1);
            size(x, 10, 1);
        });
        edges.edge(4, "the first sign of a LINE for which there is no room", () -> {
            NoHedgeTwice x = withHedges(13);
            land(x, "ab1:00;ab1:00", -8);
            land(x, "@11;ab1:00;@22;ab1:00", -16);
            size(x, 2, 13);
            land(x, "ab1:00", 1);
            land(x, "ab1:00", -1);
            land(x, "ab", -1);
            land(x, "aa0", -1);
            land(x, ";", -1);
            land(x, ";@11", -1);
            land(x, "@11;;@22", -5);
            land(x, "@11;", -5);
            land(x, "@11;ab1:00", -5);
            land(x, "@11", 1);
            size(x, 3, 14);
        });
        edges.edge(4, "the first sign of a LINE for which there is no room", () -> {
            land(withHedges(4), padded(75) + "ab1:0", -76);
            land(withHedges(3), padded(75) + "ab1:0", -77);
            land(Check.landed(NINE, "@99"), padded(75) + "@0000", -76);
            land(Check.landed(NINE), padded(75) + "@0000", -77);
        });
    }

    private static void landThatCannot() {
        edges.edge(4, "Nothing of it comes, if a LINE can't.", () -> {
            String[] bad = {"x", "@11;x", "@11;ae1:00;ab0:00", "ab5:00;@11;", "@11;@22;@33;@44;@55;@66", ";"};
            int[] place = {0, 4, 13, 11, 20, 0};
            for (int k = 0; k < bad.length; k++) {
                String text = bad[k];
                Twins.textAlone(check, "land() of " + text, Twins::busy, x -> {
                    x.end(0);
                    return Check.land(x, text);
                }, -1 - place[k]);
            }
        });
        edges.edge(4, "Nothing of it comes, if a LINE can't.", () -> {
            NoHedgeTwice x = Check.landed(TWO);
            land(x, "@99;ac9:55w9~9g;cb8:44w8~8g;x", -29);
            size(x, 2, 0);
            check.due("grass(0, 2)", x.grass(0, 2), -1);
            check.noSuch("hedge(0, 0)", () -> x.hedge(0, 0));
            land(x, "@01;ac1:00", 2);
            told(x, 0, 0, 2, 1, 0, 0, 1, 0, 0, 1);
            check.due("grass(0, 2)", x.grass(0, 2), 2);
        });
    }

    // ---- promises 5 to 8

    private static void hedge() {
        edges.edge(5, "NoSuchElementException: none such, another what.", () -> {
            NoHedgeTwice x = Check.landed(TWO, "ab5:12w3~4g");
            told(x, 0, 0, 1, 5, 1, 2, 3, 4, 1, 1);
            for (int h : new int[] {-1, 1, 13, 14, MIN, MAX}) {
                check.noSuch("hedge(" + h + ", 0)", () -> x.hedge(h, 0));
                check.noSuch("hedge(" + h + ", 8)", () -> x.hedge(h, 8));
            }
        });
        edges.edge(5, "another what", () -> {
            NoHedgeTwice x = Check.landed(TWO, "ab5:12w3~4g");
            for (int what : new int[] {-1, 9, MIN, MAX}) {
                check.noSuch("hedge(0, " + what + ")", () -> x.hedge(0, what));
            }
            NoHedgeTwice full = withHedges(14);
            told(full, 13, 0, 1, 1, 0, 0, 1, 0, 0, 1);
            check.noSuch("hedge(14, 0)", () -> full.hedge(14, 0));
            check.noSuch("hedge(0, 0) without HEDGES", () -> Check.landed(TWO).hedge(0, 0));
        });
        edges.edge(5, "NoSuchElementException", () -> {
            Twins.unchanged(check, "hedge(5, 0)", Twins::busy, x -> x.hedge(5, 0), Twins.THROWN);
            Twins.unchanged(check, "hedge(0, 9)", Twins::busy, x -> x.hedge(0, 9), Twins.THROWN);
        });
        edges.edge(5, "8: 1 if FRESH now", () -> {
            NoHedgeTwice x = Check.landed(TWO, "ab5:00;ab5:00");
            x.walk(0);
            told(x, 0, 0, 1, 5, 0, 0, 1, 0, 0, 0);
            told(x, 1, 0, 1, 5, 0, 0, 1, 0, 0, 1);
        });
    }

    private static void grass() {
        edges.edge(6, "NONE: none such.", () -> {
            NoHedgeTwice x = Check.landed(NINE, "@99");
            check.due("grass(0, 9)", x.grass(0, 9), 36);
            check.due("grass(9, 0)", x.grass(9, 0), 36);
            check.due("grass(9, 9)", x.grass(9, 9), 0);
            for (int c : new int[] {-1, 10, MIN, MAX}) {
                check.due("grass(0, " + c + ")", x.grass(0, c), -1);
                check.due("grass(" + c + ", 0)", x.grass(c, 0), -1);
                check.due("grass(" + c + ", " + c + ")", x.grass(c, c), -1);
            }
            check.due("grass(0, 1) of one CORNER", Check.landed("@00").grass(0, 1), -1);
            check.due("grass(0, 0) of none", new NoHedgeTwice().grass(0, 0), -1);
        });
    }

    private static void setDigits() {
        edges.edge(7, "WORTH of a HEDGE (what 0), its WIND (1)", () -> {
            NoHedgeTwice x = Check.landed(TWO, "ab1:00w4~5;ab1:00w6~7");
            check.due("set(0, 1, 0)", x.set(0, 1, 0), 6);
            check.due("set(0, 1, 9)", x.set(0, 1, 9), 0);
            check.due("set(1, 1, 0)", x.set(1, 1, 0), 7);
            check.due("set(1, 1, 9)", x.set(1, 1, 9), 0);
            told(x, 0, 0, 1, 1, 0, 0, 4, 5, 0);
            told(x, 1, 0, 1, 1, 0, 0, 9, 9, 0);
        });
        for (int what = 0; what <= 1; what++) {
            int digit = what;
            edges.edge(7, "Refused: others.", () -> {
                for (int v : new int[] {-1, 10, MIN, MAX}) {
                    Twins.unchanged(check, "set(" + digit + ", 0, " + v + ")", Twins::busy, x -> x.set(digit, 0, v), -1);
                }
                for (int h : new int[] {-1, 5, 14, MIN, MAX}) {
                    Twins.unchanged(check, "set(" + digit + ", " + h + ", 1)", Twins::busy, x -> x.set(digit, h, 1), -1);
                }
            });
        }
    }

    private static void setNightsAndFrost() {
        edges.edge(7, "NIGHTS (2; h does not matter)", () -> {
            NoHedgeTwice x = new NoHedgeTwice();
            int was = 9;
            for (int h : new int[] {0, -1, 14, MIN, MAX}) {
                check.due("set(2, " + h + ", 0)", x.set(2, h, 0), was);
                check.due("set(2, " + h + ", 99)", x.set(2, h, 99), 0);
                was = 99;
            }
            check.due("count(8)", x.count(8), 99);
            check.due("count(9)", x.count(9), 600);
        });
        edges.edge(7, "FROST (3; likewise)", () -> {
            NoHedgeTwice x = new NoHedgeTwice();
            int was = 600;
            for (int h : new int[] {0, -1, 14, MIN, MAX}) {
                check.due("set(3, " + h + ", 0)", x.set(3, h, 0), was);
                check.due("set(3, " + h + ", 9999)", x.set(3, h, 9999), 0);
                was = 9999;
            }
            check.due("count(9)", x.count(9), 9999);
            check.due("count(8)", x.count(8), 9);
        });
        edges.edge(7, "Refused: others.", () -> {
            for (int v : new int[] {-1, 100, MIN, MAX}) {
                Twins.unchanged(check, "set(2, 0, " + v + ")", Twins::busy, x -> x.set(2, 0, v), -1);
            }
            for (int v : new int[] {-1, 10000, MIN, MAX}) {
                Twins.unchanged(check, "set(3, 0, " + v + ")", Twins::busy, x -> x.set(3, 0, v), -1);
            }
            for (int what : new int[] {-1, 4, MIN, MAX}) {
                Twins.unchanged(check, "set(" + what + ", 0, 1)", Twins::busy, x -> x.set(what, 0, 1), -1);
            }
        });
        edges.edge(7, "becomes v: what it was", () -> {
            NoHedgeTwice x = Twins.busy();
            x.set(3, 0, 0);
            check.due("FROST may go below TIME: count(3)", x.count(3), 20);
            check.due("count(4): walks stay to be undone", x.count(4), 2);
            check.due("count(6): the ROW stays", x.count(6), 2);
        });
    }

    private static void sheetKinds() {
        edges.edge(8, "NONE: another kind, n above 14 (these first).", () -> {
            for (int kind : new int[] {-1, 4, MIN, MAX}) {
                Twins.unchanged(check, "sheet of kind " + kind, Twins::busy, x -> x.sheet(kind, 1, 7, 0), -1);
                Twins.unchanged(check, "sheet of kind " + kind + ", -1", Twins::busy, x -> x.sheet(kind, -1, 7, 0), -1);
            }
            for (int kind = 0; kind <= 3; kind++) {
                int one = kind;
                Twins.unchanged(check, "sheet(" + kind + ", 15)", Twins::busy, x -> x.sheet(one, 15, 7, 0), -1);
                Twins.unchanged(check, "sheet(" + kind + ", MAX)", Twins::busy, x -> x.sheet(one, MAX, 7, 0), -1);
            }
        });
        edges.edge(8, "-2: n below 0 (of kinds 0 .. 2; nothing changes)", () -> {
            for (int kind = 0; kind <= 2; kind++) {
                int one = kind;
                Twins.unchanged(check, "sheet(" + kind + ", -1)", Twins::busy, x -> x.sheet(one, -1, 7, 0), -2);
                Twins.unchanged(check, "sheet(" + kind + ", MIN)", Twins::busy, x -> x.sheet(one, MIN, 7, 0), -2);
            }
        });
        edges.edge(8, "those behind it have 1: the sum of all", () -> {
            for (int kind = 0; kind <= 2; kind++) {
                NoHedgeTwice x = Check.landed(TWO, "ab9:00;ab9:00;ab9:00");
                check.due("sheet of 1", x.sheet(kind, 1, 7, 1), 9);
                longs(x, 7, 1, 1);
                check.due("sheet of 2", x.sheet(kind, 2, 7, 1), 16);
                longs(x, 7, 8, 1);
                check.due("sheet of 3", x.sheet(kind, 3, 7, 1), 24);
                longs(x, 7, 8, 9);
                check.due("sheet of 14, more than there are HEDGES", x.sheet(kind, 14, 7, 1), 24);
                longs(x, 7, 8, 9);
                check.due("sheet of 0", x.sheet(kind, 0, 7, 1), 3);
                longs(x, 1, 1, 1);
            }
        });
        edges.edge(8, "LONG of HEDGES 0, 1, ..", () -> {
            NoHedgeTwice x = withHedges(14);
            check.due("sheet of 14", x.sheet(2, 14, 1, 1), 105);
            longs(x, 1, 2, 3, 4, 5, 6, 7, 8, 9, 10, 11, 12, 13, 14);
            check.due("sheet of 13", x.sheet(0, 13, 20, 0), 261);
            check.due("LONG of the last", x.hedge(13, 2), 1);
            check.due("sheet without HEDGES", Check.landed(TWO).sheet(2, 14, 5, 0), 0);
            check.due("sheet of a new object", new NoHedgeTwice().sheet(0, 14, 5, 0), 0);
        });
    }

    private static void entry(int kind, int f, int want) {
        NoHedgeTwice x = Check.landed(TWO, "ab9:00");
        check.due("sheet(" + kind + ", 1, " + f + ", 0)", x.sheet(kind, 1, f, 0), want);
        longs(x, want);
    }

    private static void sheetEntries() {
        edges.edge(8, "put to 1 .. 20", () -> {
            for (int kind = 0; kind <= 2; kind++) {
                int[] f = {-1, 0, 1, 2, 19, 20, 21, 100, -100};
                int[] want = {1, 1, 1, 2, 19, 20, 20, 20, 1};
                for (int k = 0; k < f.length; k++) {
                    entry(kind, f[k], want[k]);
                }
            }
        });
        edges.edge(8, "(of bytes, shorts the lowest bits, with their sign", () -> {
            int[] f = {127, 128, 255, 256, 257, 256 + 20, 256 + 127, 256 + 128, -128, -129, -256 + 3, MIN, MIN + 5, MAX};
            int[] want = {20, 1, 1, 1, 1, 20, 20, 1, 1, 20, 3, 1, 5, 1};
            for (int k = 0; k < f.length; k++) {
                entry(0, f[k], want[k]);
            }
        });
        edges.edge(8, "(of bytes, shorts the lowest bits, with their sign", () -> {
            int[] f = {127, 128, 255, 257, 32767, 32768, 65535, 65536, 65537, 65536 + 7, -32768, -32769, MIN, MIN + 5, MAX};
            int[] want = {20, 20, 20, 20, 20, 1, 1, 1, 1, 7, 1, 20, 1, 5, 1};
            for (int k = 0; k < f.length; k++) {
                entry(1, f[k], want[k]);
            }
        });
        edges.edge(8, "ints (2)", () -> {
            int[] f = {128, 256, 32768, 65536, MAX, MIN, MIN + 5, -256 + 3};
            int[] want = {20, 20, 20, 20, 20, 1, 1, 1};
            for (int k = 0; k < f.length; k++) {
                entry(2, f[k], want[k]);
            }
        });
        edges.edge(8, "of n entries f, f + step, ..", () -> {
            NoHedgeTwice x = Check.landed(TWO, "ab9:00;ab9:00;ab9:00;ab9:00");
            check.due("a step below 0", x.sheet(2, 4, 5, -2), 10);
            longs(x, 5, 3, 1, 1);
            check.due("bytes that wrap", x.sheet(0, 4, 126, 1), 42);
            longs(x, 20, 20, 1, 1);
            check.due("bytes by a step of 256 and one", x.sheet(0, 4, 2, 257), 14);
            longs(x, 2, 3, 4, 5);
            check.due("shorts that wrap", x.sheet(1, 4, 32766, 1), 42);
            longs(x, 20, 20, 1, 1);
            check.due("ints that wrap", x.sheet(2, 4, MAX - 1, 1), 42);
            longs(x, 20, 20, 1, 1);
            check.due("ints that wrap downwards", x.sheet(2, 4, MIN + 1, -1), 42);
            longs(x, 1, 1, 20, 20);
            check.due("a step of half the ring", x.sheet(2, 4, 6, MIN), 14);
            longs(x, 6, 1, 6, 1);
        });
    }

    private static void sheetOfMissing() {
        edges.edge(8, "-3: missing (all 1)", () -> {
            for (int n : new int[] {MIN, -1, 0, 1, 14}) {
                NoHedgeTwice x = Check.landed(TWO, "ab9:00;ab9:00");
                check.due("sheet(3, " + n + ")", x.sheet(3, n, 7, 7), -3);
                longs(x, 1, 1);
            }
            check.due("sheet(3, 0) without HEDGES", new NoHedgeTwice().sheet(3, 0, 0, 0), -3);
        });
        edges.edge(8, "-3: missing (all 1)", () -> {
            NoHedgeTwice x = Twins.busy();
            x.sheet(3, 0, 0, 0);
            check.due("the ROW stays: count(6)", x.count(6), 2);
            check.due("the signs stay: count(7)", x.count(7), 2);
            check.due("walks stay to be undone: count(4)", x.count(4), 2);
            x.undo();
            check.due("TIME ahead of the walk, as it was: count(3)", x.count(3), 16);
        });
    }
}
