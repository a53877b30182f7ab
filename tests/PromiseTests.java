/** Each promise of the document by hand: ordinary inputs, the edges it names, wrong inputs. */
public final class PromiseTests {
    private static final Check check = new Check();
    private static final int MIN = Integer.MIN_VALUE;
    private static final int MAX = Integer.MAX_VALUE;

    /** A triangle of hedges ab, bc, ca, the last against a wind and a gate. */
    private static final String TRIANGLE = "@00;@30;@34;ab5:01;bc6:12w3;ca7:20~2g";
    /** Two hedges apart. */
    private static final String APART = "@00;@10;@20;@30;ab1:00;cd1:13";
    private static final String TEN = "@00;@01;@02;@03;@04;@05;@06;@07;@08;@09";

    public static void main(String[] args) {
        theLand();
        theWalker();
        tours();
        seasons();
        rounds();
        byTheFrost();
        cutOff();
        heard();
        kept();
        refusalsChangeNothing();
        check.close();
    }

    // ---- the land

    private static void theLand() {
        newObject();
        signs();
        landTexts();
        landPlaces();
        landOf76();
        landWithoutRoom();
        hedges();
        setting();
        sheets();
    }

    private static void newObject() {
        check.about("promise 1");
        NoHedgeTwice x = new NoHedgeTwice();
        int[] want = {0, 0, -1, 0, 0, 0, 0, 0, 9, 600, -1};
        for (int what = 0; what < want.length; what++) {
            check.due("count(" + what + ")", x.count(what), want[what]);
        }
    }

    private static void signs() {
        check.about("promises 2, 3");
        NoHedgeTwice x = new NoHedgeTwice();
        check.due("end(1) of an empty text", x.end(1), false);
        check.due("end(0)", x.end(0), true);
        for (int k = 1; k <= 20; k++) {
            check.due("sign", x.sign(0x40303000 | ';'), 4 * k);
        }
        check.due("sign, of 84", x.sign(0), -1);
        check.due("count(7)", x.count(7), 80);
        check.due("end(81)", x.end(81), false);
        check.due("end(-1)", x.end(-1), false);
        check.due("end(MIN)", x.end(MIN), false);
        check.due("count(7)", x.count(7), 80);
        check.due("end(77)", x.end(77), true);
        check.due("sign, of 81", x.sign(0), -1);
        check.due("end(76)", x.end(76), true);
        check.due("sign, of 80", x.sign(-1), 80);
        check.due("end(3)", x.end(3), true);
        check.due("count(7)", x.count(7), 3);
        check.due("the highest byte is the first sign", x.land(), 1);
    }

    private static void land(NoHedgeTwice x, String text, int want) {
        check.due("land() of " + text, Check.land(x, text), want);
        check.due("signs behind land() of " + text, x.count(7), 0);
    }

    private static void landTexts() {
        check.about("promise 4, what comes");
        NoHedgeTwice x = new NoHedgeTwice();
        land(x, "", 0);
        check.due("count(2)", x.count(2), -1);
        land(x, TRIANGLE, 6);
        check.due("corners", x.count(0), 3);
        check.due("hedges", x.count(1), 3);
        check.due("count(2)", x.count(2), 0);
        land(x, "@99;cd20:55w0~9g;ba05:34~1;ab1:00w9", 4);
        check.due("corners", x.count(0), 4);
        int[][] want = {
            {0, 1, 5, 0, 1, 1, 0, 0, 1}, {1, 2, 6, 1, 2, 3, 0, 0, 1}, {2, 0, 7, 2, 0, 1, 2, 1, 1},
            {2, 3, 20, 5, 5, 0, 9, 1, 1}, {1, 0, 5, 3, 4, 1, 1, 0, 1}, {0, 1, 1, 0, 0, 9, 0, 0, 1}};
        check.about("promise 5");
        for (int h = 0; h < want.length; h++) {
            for (int what = 0; what <= 8; what++) {
                check.due("hedge(" + h + ", " + what + ")", x.hedge(h, what), want[h][what]);
            }
        }
    }

    private static void landPlaces() {
        check.about("promise 4, what can't stand");
        NoHedgeTwice x = Check.landed("@00;@30");
        String[] bad = {
            "x", "@", "@0", "@0x", "@00@", "@00;", "@00;;", ";", "@000", "@:0",
            "ab5:0", "ab5:", "ab5", "ab", "a", "aa5:00", "ac5:00", "ca5:00", "ka5:00", "Ab5:00",
            "ab0:00", "ab0", "ab00:00", "ab21:00", "ab99", "ab215:00", "ab200:00", "abx:00", "ab5x00", "ab:00",
            "ab5:60", "ab5:06", "ab5:00w", "ab5:00wx", "ab5:00w33", "ab5:00~", "ab5:00~~", "ab5:00~1w1",
            "ab5:00gg", "ab5:00gw1", "ab5:00w1w1", "ab5:00x", "ab5:00;", "ab5:00;ab5", "@31;ad5:00", "cd5:00;@11",
            "ab5:00;@1;@22", "ab5:0\0", "\u00e9", " @00"};
        int[] place = {
            0, 1, 2, 2, 3, 4, 4, 0, 3, 1,
            5, 4, 3, 2, 1, 1, 1, 0, 0, 0,
            2, 2, 3, 3, 3, 3, 4, 2, 3, 2,
            4, 5, 7, 7, 8, 7, 7, 8,
            7, 7, 8, 6, 7, 10, 5, 0,
            9, 5, 0, 0};
        for (int k = 0; k < bad.length; k++) {
            land(x, bad[k], -1 - place[k]);
        }
        check.due("corners", x.count(0), 2);
        check.due("hedges", x.count(1), 0);
        land(x, "@31;ac5:00", 2);
        check.due("corner that the text tells itself", x.hedge(0, 1), 2);
    }

    private static void landOf76() {
        check.about("promise 4, 76 signs");
        String seven = "ab12:00w1;ab12:00w1;ab12:00w1;ab12:00w1;ab12:00w1;ab12:00w1;ab12:00w1;";
        NoHedgeTwice x = Check.landed("@00;@30");
        land(x, seven + "ab5:00g", -77);
        land(x, seven + "ab5:00;", -77);
        land(x, seven + "ab5:00x", -77);
        land(x, seven + "ab5:06x", -76);
        land(x, seven + "ab12:000", -77);
        land(x, seven + "ab12:06", -77);
        land(x, seven + "ab5:00g;xx", -77);
        land(x, seven + "ac5:00gxxx", -72);
        check.due("hedges", x.count(1), 0);
        land(x, seven + "ab5:00", 8);
        check.due("hedges", x.count(1), 8);
        longAtTheEdge();
    }

    private static void longAtTheEdge() {
        NoHedgeTwice x = Check.landed("@00;@30");
        String six = "ab5:00;ab5:00;ab5:00;ab5:00;ab5:00;ab5:00;@00;@00;@00;@00;@00;ab5:00w1;";
        check.due("length", six.length(), 71);
        land(x, six + "ab21:00", -75);
        land(x, six + "ab20:00", -77);
        land(x, six + "ab00:00", -75);
        land(x, six + "ab5:60w1", -76);
        land(x, six + "ab", -74);
        String seven = "ab5:00;ab5:00;ab5:00;ab5:00;ab5:00;ab5:00;ab5:00;@00;@00;@00;@00;@00;ab5:00;";
        check.due("length", seven.length(), 76);
        land(x, seven, -77);
        land(x, seven + "ab5", -77);
        land(x, seven.substring(0, 68) + ";@00;ab05", -76);
        land(x, seven.substring(0, 68) + ";@00;ab0", -76);
        land(x, seven.substring(0, 68) + ";@00;ab21:00", -77);
        land(x, seven.substring(0, 68) + ";@00;ab99:00", -77);
        check.due("corners", x.count(0), 2);
        check.due("hedges", x.count(1), 0);
    }

    private static void landWithoutRoom() {
        check.about("promise 4, no room");
        NoHedgeTwice x = Check.landed(TEN);
        land(x, "@00", -1);
        land(x, "aj5:00;@00", -8);
        check.due("hedges", x.count(1), 0);
        land(x, "aj5:00;bj5:00;cj5:00;dj5:00;ej5:00;fj5:00;gj5:00;hj5:00;ij5:00;ab5:00", 10);
        land(x, "ab5:00;ab5:00;ab5:00;ab5:00;ab5:00", -29);
        check.due("hedges", x.count(1), 10);
        land(x, "ab5:00;ab5:00;ab5:00;ab5:00", 4);
        land(x, "ab5:00", -1);
        land(x, "x", -1);
        land(x, "@00", -1);
        check.due("corners", x.count(0), 10);
        check.due("hedges", x.count(1), 14);
        x = Check.landed("@00;@01;@02;@03;@04;@05;@06;@07;@08");
        land(x, "@09;@10;@11", -5);
        check.due("corners", x.count(0), 9);
        land(x, "ak5:00", -2);
        land(x, "aj5:00", -2);
        land(x, "@09;aj5:00", 2);
    }

    private static void hedges() {
        check.about("promises 5, 6");
        NoHedgeTwice x = Check.landed(TRIANGLE);
        int[][] none = {{-1, 0}, {3, 0}, {0, -1}, {0, 9}, {MIN, 0}, {MAX, 0}, {0, MAX}, {0, MIN}, {14, 0}};
        for (int[] pair : none) {
            check.noSuch("hedge(" + pair[0] + ", " + pair[1] + ")", () -> x.hedge(pair[0], pair[1]));
        }
        x.walk(0);
        check.due("hedge(0, 8) when walked", x.hedge(0, 8), 0);
        check.due("hedge(1, 8)", x.hedge(1, 8), 1);
        check.due("grass(0, 1)", x.grass(0, 1), 6);
        check.due("grass(2, 0)", x.grass(2, 0), 14);
        check.due("grass(1, 1)", x.grass(1, 1), 0);
        check.due("grass(0, 3)", x.grass(0, 3), -1);
        check.due("grass(-1, 0)", x.grass(-1, 0), -1);
        check.due("grass(MAX, MIN)", x.grass(MAX, MIN), -1);
    }

    private static void setting() {
        check.about("promise 7");
        NoHedgeTwice x = Check.landed(TRIANGLE);
        check.due("set(0, 1, 9)", x.set(0, 1, 9), 3);
        check.due("hedge(1, 5)", x.hedge(1, 5), 9);
        check.due("set(0, 1, 10)", x.set(0, 1, 10), -1);
        check.due("set(0, 1, -1)", x.set(0, 1, -1), -1);
        check.due("set(0, 3, 1)", x.set(0, 3, 1), -1);
        check.due("set(0, -1, 1)", x.set(0, -1, 1), -1);
        check.due("set(0, 1, 0)", x.set(0, 1, 0), 9);
        check.due("set(1, 2, 9)", x.set(1, 2, 9), 2);
        check.due("hedge(2, 6)", x.hedge(2, 6), 9);
        check.due("set(1, 2, 10)", x.set(1, 2, 10), -1);
        check.due("set(1, 2, -1)", x.set(1, 2, -1), -1);
        check.due("set(1, 14, 0)", x.set(1, 14, 0), -1);
        check.due("set(2, MIN, 0)", x.set(2, MIN, 0), 9);
        check.due("set(2, 0, 99)", x.set(2, 0, 99), 0);
        check.due("set(2, 0, 100)", x.set(2, 0, 100), -1);
        check.due("set(2, 0, -1)", x.set(2, 0, -1), -1);
        check.due("count(8)", x.count(8), 99);
        check.due("set(3, MAX, 9999)", x.set(3, MAX, 9999), 600);
        check.due("set(3, 0, 0)", x.set(3, 0, 0), 9999);
        check.due("set(3, 0, 10000)", x.set(3, 0, 10000), -1);
        check.due("set(3, 0, -1)", x.set(3, 0, -1), -1);
        check.due("count(9)", x.count(9), 0);
        check.due("set(4, 0, 0)", x.set(4, 0, 0), -1);
        check.due("set(-1, 0, 0)", x.set(-1, 0, 0), -1);
    }

    private static void longs(NoHedgeTwice x, int... want) {
        for (int h = 0; h < want.length; h++) {
            check.due("LONG of hedge " + h, x.hedge(h, 2), want[h]);
        }
    }

    private static void sheets() {
        check.about("promise 8");
        NoHedgeTwice x = Check.landed(TRIANGLE);
        check.due("sheet(2, 2, 4, 20)", x.sheet(2, 2, 4, 20), 25);
        longs(x, 4, 20, 1);
        check.due("sheet(0, 3, 127, 1)", x.sheet(0, 3, 127, 1), 22);
        longs(x, 20, 1, 1);
        check.due("sheet(0, 3, 260, 250)", x.sheet(0, 3, 260, 250), 6);
        longs(x, 4, 1, 1);
        check.due("sheet(1, 3, 65536 + 5, 1)", x.sheet(1, 3, 65541, 1), 18);
        longs(x, 5, 6, 7);
        check.due("sheet(1, 2, 32767, 1)", x.sheet(1, 2, 32767, 1), 22);
        longs(x, 20, 1, 1);
        check.due("sheet(2, 3, MAX, 1)", x.sheet(2, 3, MAX, 1), 22);
        longs(x, 20, 1, 1);
        check.due("sheet(2, 3, 3, MIN)", x.sheet(2, 3, 3, MIN), 7);
        longs(x, 3, 1, 3);
        check.due("sheet(2, 14, 9, 0)", x.sheet(2, 14, 9, 0), 27);
        check.due("sheet(2, 15, 9, 0)", x.sheet(2, 15, 9, 0), -1);
        check.due("sheet(3, 15, 9, 0)", x.sheet(3, 15, 9, 0), -1);
        check.due("sheet(0, -1, 5, 0)", x.sheet(0, -1, 5, 0), -2);
        check.due("sheet(1, MIN, 5, 0)", x.sheet(1, MIN, 5, 0), -2);
        check.due("sheet(2, -1, 5, 0)", x.sheet(2, -1, 5, 0), -2);
        check.due("sheet(4, -1, 5, 0)", x.sheet(4, -1, 5, 0), -1);
        check.due("sheet(-1, 1, 5, 0)", x.sheet(-1, 1, 5, 0), -1);
        longs(x, 9, 9, 9);
        check.due("sheet(2, 0, 5, 0)", x.sheet(2, 0, 5, 0), 3);
        longs(x, 1, 1, 1);
        x.sheet(2, 14, 9, 0);
        check.due("sheet(3, -7, 5, 0)", x.sheet(3, -7, 5, 0), -3);
        longs(x, 1, 1, 1);
    }

    // ---- the walker

    private static void theWalker() {
        walks();
        nights();
        gatesByLight();
        frost();
        undoing();
        going();
    }

    private static void walks() {
        check.about("promises 9, 13");
        NoHedgeTwice x = Check.landed(TRIANGLE);
        check.due("walk(-1)", x.walk(-1), -1);
        check.due("walk(3)", x.walk(3), -1);
        check.due("walk(MAX)", x.walk(MAX), -1);
        check.due("walk(1)", x.walk(1), -2);
        check.due("can()", x.can(), 5);
        check.due("walk(2) from its second corner", x.walk(2), 9);
        check.due("count(2)", x.count(2), 2);
        check.due("count(3)", x.count(3), 9);
        check.due("can()", x.can(), 2);
        check.due("walk(2) again", x.walk(2), -3);
        check.due("walk(0) elsewhere", x.walk(0), -2);
        check.due("walk(1) back", x.walk(1), 6);
        check.due("count(2)", x.count(2), 1);
        check.due("walk(0) back", x.walk(0), 5);
        check.due("count(3)", x.count(3), 20);
        check.due("can() where all is walked", x.can(), 0);
    }

    private static void nights() {
        check.about("term 1, FRESH");
        NoHedgeTwice x = Check.landed("@00;@30;ab20:00;ab20:00");
        x.set(2, 0, 2);
        x.rest(50);
        check.due("walk(0) that begins on DAY 0", x.walk(0), 20);
        check.due("count(3)", x.count(3), 70);
        check.due("walk(0) on DAY 1", x.walk(0), -3);
        x.rest(49);
        check.due("walk(0) in minute 119", x.walk(0), -3);
        check.due("hedge(0, 8)", x.hedge(0, 8), 0);
        x.rest(1);
        check.due("hedge(0, 8)", x.hedge(0, 8), 1);
        check.due("walk(0) in minute 120", x.walk(0), 20);
        check.due("walk(0)", x.walk(0), -3);
        x.set(2, 0, 0);
        check.due("walk(0) with no NIGHTS", x.walk(0), 20);
        check.due("can() with no NIGHTS", x.can(), 3);
        x.set(2, 0, 1);
        check.due("can() with one", x.can(), 2);
    }

    private static void gatesByLight() {
        check.about("term 1, LIGHT");
        NoHedgeTwice x = Check.landed("@00;@30;ab20:00g;ab20:00g;ab1:00");
        x.rest(39);
        check.due("walk(0) in minute 39", x.walk(0), 20);
        check.due("count(3)", x.count(3), 59);
        check.due("walk(1) in minute 59", x.walk(1), -4);
        check.due("walk(0): not fresh comes first", x.walk(0), -3);
        check.due("can()", x.can(), 4);
        x.set(3, 0, 59);
        check.due("walk(1): the dark comes ahead of the frost", x.walk(1), -4);
        check.due("walk(2)", x.walk(2), -5);
        x.set(3, 0, 600);
        x.rest(1);
        check.due("can()", x.can(), 6);
        x.rest(40);
        check.due("walk(1) in minute 40 of the day", x.walk(1), -4);
    }

    private static void frost() {
        check.about("promises 9, 10, FROST");
        NoHedgeTwice x = Check.landed(TRIANGLE);
        check.due("rest(-1)", x.rest(-1), -1);
        check.due("rest(10000)", x.rest(10000), -1);
        check.due("rest(MAX)", x.rest(MAX), -1);
        check.due("rest(601)", x.rest(601), -5);
        check.due("rest(9999)", x.rest(9999), -5);
        check.due("rest(595)", x.rest(595), 595);
        x.set(3, 0, 600);
        check.due("walk(0) just till the frost", x.walk(0), 5);
        check.due("walk(1)", x.walk(1), -5);
        check.due("rest(0)", x.rest(0), 600);
        check.due("rest(1)", x.rest(1), -5);
        x.set(3, 0, 599);
        check.due("rest(0) behind the frost", x.rest(0), -5);
        x.set(3, 0, 9999);
        check.due("rest(9399)", x.rest(9399), 9999);
    }

    private static void undoing() {
        check.about("promise 11");
        NoHedgeTwice x = Check.landed("@00;@30;ab1:00;ab2:00~3");
        check.due("undo() of nothing", x.undo(), -1);
        x.set(2, 0, 0);
        x.set(3, 0, 9999);
        for (int k = 1; k <= 33; k++) {
            x.walk(0);
            check.due("count(4)", x.count(4), Math.min(k, 30));
        }
        for (int left = 29; left >= 0; left--) {
            check.due("undo()", x.undo(), left);
        }
        check.due("undo() of the 31st", x.undo(), -1);
        check.due("count(2)", x.count(2), 1);
        check.due("count(3)", x.count(3), 3);
        x.set(2, 0, 9);
        check.due("the first three stay", x.hedge(0, 8), 0);
        x.go(0);
        x.set(2, 0, 1);
        x.walk(1);
        x.rest(60);
        x.walk(1);
        check.due("undo() of a second walk", x.undo(), 0);
        check.due("hedge(1, 8): walked the day before", x.hedge(1, 8), 1);
        x.set(2, 0, 2);
        check.due("hedge(1, 8): not two days before", x.hedge(1, 8), 0);
        check.due("count(2)", x.count(2), 1);
        forgetting();
    }

    private static void forgetting() {
        NoHedgeTwice x = Check.landed("@00;@30;ab1:00;ab1:00;ab1:00;ab1:00");
        x.keep(0);
        x.walk(0);
        land(x, "", 0);
        land(x, "x", -1);
        x.rest(-1);
        x.rest(9999);
        x.season(61);
        x.go(2);
        x.again(1);
        x.set(2, 0, 9);
        check.due("count(4) behind refused calls", x.count(4), 1);
        x.rest(0);
        check.due("count(4) behind rest", x.count(4), 0);
        x.walk(1);
        x.go(1);
        check.due("count(4) behind go", x.count(4), 0);
        x.walk(1);
        land(x, "@11", 1);
        check.due("count(4) behind land", x.count(4), 0);
        x.walk(2);
        x.again(0);
        check.due("count(4) behind again", x.count(4), 0);
        x.walk(2);
        x.season(0);
        check.due("count(4) behind season", x.count(4), 0);
        check.due("undo()", x.undo(), -1);
    }

    private static void going() {
        check.about("promise 12");
        NoHedgeTwice x = Check.landed(TRIANGLE);
        x.walk(0);
        check.due("go(3)", x.go(3), false);
        check.due("go(-1)", x.go(-1), false);
        check.due("count(3)", x.count(3), 5);
        check.due("go(2)", x.go(2), true);
        check.due("count(2)", x.count(2), 2);
        check.due("count(3)", x.count(3), 0);
        check.due("hedge(0, 8)", x.hedge(0, 8), 1);
        check.due("go(0) of nothing", new NoHedgeTwice().go(0), false);
    }

    private static void tours() {
        check.about("promise 14");
        NoHedgeTwice x = Check.landed(TRIANGLE);
        String[] texts = {"aABC", "aC", "b", "aAA", "", "d", "aB", "aD", "aABA", "A", "aa", "aA;", "aAN"};
        int[] want = {18, 9, 0, 10, -1, -1, -2, -2, -4, -1, -2, -3, -3};
        for (int k = 0; k < texts.length; k++) {
            check.due("tour(0) of " + texts[k], Check.tour(x, 0, texts[k]), want[k]);
            check.due("signs behind it", x.count(7), 0);
        }
        Check.tour(x, 1, "bBC");
        check.row(x, 0, 6);
        Check.tour(x, 1, "bB;");
        check.row(x, 0, 6);
        Check.tour(x, 1, "cB");
        check.row(x, 1, 2);
        Check.say(x, "aA");
        check.due("tour(2)", x.tour(2), -100);
        check.due("signs behind it", x.count(7), 0);
        Check.say(x, "x");
        check.due("tour(-1)", x.tour(-1), -100);
        check.due("signs behind it", x.count(7), 0);
        String thirty = "aAAAAAAAAAAAAAAAAAAAAAAAAAAAAA";
        check.due("tour(0) of 30 signs", Check.tour(x, 0, thirty), 29 * 5);
        check.row(x, 1, 1);
        check.due("tour(0) of 31 signs", Check.tour(x, 0, thirty + "A"), -31);
        check.due("tour(0) of 31 signs, one bad ahead", Check.tour(x, 0, "aB" + thirty), -2);
        looking();
        meeting();
    }

    private static void looking() {
        check.about("promise 15");
        NoHedgeTwice x = Check.landed(TRIANGLE, "ab3:00w9g");
        check.due("look(0) of none", x.look(0), -3);
        check.due("look(-1)", x.look(-1), -1);
        check.due("look(2)", x.look(2), -1);
        Check.tour(x, 0, "aABC");
        Check.tour(x, 1, "bBCAD");
        x.go(2);
        check.due("look(0) from elsewhere", x.look(0), -2);
        check.row(x, 0, 18, 5);
        check.due("look(1)", x.look(1), -2);
        check.row(x, 0, 21, 14);
        x.rest(30);
        check.due("look(0): a gate in the dark", x.look(0), 2);
        check.row(x, -4, 11, 4);
        check.due("look(1): both gates, the later one in the dark", x.look(1), 3);
        check.row(x, -4, 18, 5);
        x.set(3, 0, 40);
        check.due("look(0): the frost", x.look(0), 1);
        check.row(x, -5, 5, 1);
        x.set(3, 0, 600);
        x.walk(1);
        check.due("look(0): one that is walked", x.look(0), 1);
        check.row(x, -3, 5, 1);
        check.due("look(1)", x.look(1), 0);
        check.row(x, -3, 0, 0);
        check.due("count(3)", x.count(3), 36);
        check.due("count(2)", x.count(2), 1);
        check.due("count(4)", x.count(4), 1);
        check.due("tour(0)", Check.tour(x, 0, "aAA"), 10);
        check.due("look(0): one walked in the tour itself", x.look(0), 1);
        check.row(x, -3, 5, 1);
        x.set(2, 0, 0);
        check.due("look(0) with no NIGHTS", x.look(0), -2);
        check.row(x, 0, 10, 2);
        check.due("tour(0)", Check.tour(x, 0, "c"), 0);
        check.due("look(0) of a corner alone", x.look(0), -2);
        check.row(x, 0, 0, 0);
    }

    private static void meeting() {
        check.about("promises 16, 17");
        NoHedgeTwice x = Check.landed("@00;@30;@34;ab5:01;bc6:12w3;ca7:20~2");
        check.due("meets(0)", x.meets(0), -3);
        check.due("meets(100)", x.meets(100), -1);
        check.due("meets(-1)", x.meets(-1), -1);
        Check.tour(x, 1, "aA");
        check.due("meets(0)", x.meets(0), -3);
        check.due("apart()", x.apart(), -3);
        Check.tour(x, 0, "aAB");
        check.due("meets(0)", x.meets(0), 0);
        check.row(x, 0);
        check.due("apart()", x.apart(), -2);
        Check.tour(x, 0, "cBA");
        // c at 0, b at 6, a at 11; the other leaves a at wait, is at b from wait + 5 on
        check.due("meets(0)", x.meets(0), 6);
        check.row(x, 1);
        check.due("meets(1)", x.meets(1), 6);
        check.row(x, 1);
        check.due("meets(2)", x.meets(2), -2);
        check.row(x, 1);
        check.due("meets(11)", x.meets(11), 11);
        check.row(x, 0);
        check.due("meets(99)", x.meets(99), 11);
        check.due("apart()", x.apart(), 2);
        Check.tour(x, 0, "a");
        check.due("meets(5), one stands where the other begins", x.meets(5), 0);
        Check.tour(x, 0, "b");
        check.due("meets(7), one stands where the other ends", x.meets(7), 12);
        check.row(x, 1);
        check.due("apart()", x.apart(), -2);
        Check.tour(x, 0, "c");
        check.due("meets(0)", x.meets(0), -2);
        check.due("apart()", x.apart(), 0);
        Check.tour(x, 0, "bA");
        Check.tour(x, 1, "bBC");
        // the first is at a from 5 on; the other at b till wait, at a from wait + 13 on
        check.due("meets(0)", x.meets(0), 0);
        Check.tour(x, 0, "cC");
        Check.tour(x, 1, "aC");
        // one goes c a in 7, the other a c in 9: in one hedge they pass
        check.due("meets(0)", x.meets(0), -2);
        check.due("meets(6)", x.meets(6), -2);
        check.due("meets(7)", x.meets(7), 7);
        check.row(x, 0);
        x.sheet(2, 3, 3, 0);
        check.due("meets(3), of LONG as it is now", x.meets(3), 3);
        check.due("meets(2)", x.meets(2), -2);
        latestApart();
    }

    private static void latestApart() {
        // one is at the second corner last in minute 99, the other from wait + 1 on
        NoHedgeTwice x = Check.landed("@00;@30;@34;bc16:00~1;ab1:00");
        Check.tour(x, 0, "bAAAAAAA");
        Check.tour(x, 1, "aB");
        check.due("apart(), of 99", x.apart(), 99);
        check.due("meets(98)", x.meets(98), 99);
        check.row(x, 1);
        check.due("meets(99)", x.meets(99), -2);
        x.set(1, 0, 0);
        x.sheet(2, 2, 10, -9);
        Check.tour(x, 0, "bAAAAAAAAAAA");
        check.due("meets(99), last at minute 100", x.meets(99), 100);
        check.due("apart(), of none", x.apart(), -2);
    }

    private static void seasons() {
        check.about("promise 18");
        NoHedgeTwice x = new NoHedgeTwice();
        check.due("season(-1)", x.season(-1), -1);
        check.due("season(61)", x.season(61), -1);
        check.due("season(0)", x.season(0), 0);
        check.row(x, 0, -1);
        check.due("season(10)", x.season(10), 0);
        check.due("count(3)", x.count(3), 600);
        x = Check.landed(TRIANGLE);
        // ab and ca are worth 1 both: ab first
        check.due("season(1)", x.season(1), 3);
        check.row(x, 5, 0);
        check.due("count(3)", x.count(3), 60);
        check.due("season(60): once more on day 9", x.season(60), 3);
        check.row(x, 5, 0);
        check.due("count(3) at the frost", x.count(3), 600);
        x.set(3, 0, 300);
        check.due("season(1)", x.season(1), 0);
        check.due("count(3) behind the frost", x.count(3), 600);
        byWorth();
        inTheDark();
    }

    private static void byWorth() {
        NoHedgeTwice x = Check.landed("@00;@30;ab20:00w2;ab20:00w3;ab15:00w3;ab1:00w0g;ab20:00w0");
        x.go(1);
        // 20 by the second, 35 by the third, 55 by the first; then dark
        check.due("season(1)", x.season(1), 3);
        check.row(x, 8, 0);
        check.due("count(3)", x.count(3), 60);
        // 61 by the gate, 81 by the last
        check.due("season(1)", x.season(1), 2);
        check.row(x, 0, 0);
        x.go(0);
        x.set(2, 0, 1);
        x.sheet(2, 5, 20, 0);
        x.set(1, 0, 9);
        x.set(1, 1, 9);
        x.set(1, 2, 9);
        // 0 b-ward by 1: 20; back by 2: 49; on day 1 the same
        check.due("season(2)", x.season(2), 4);
        check.row(x, 12, 0);
        check.due("count(3)", x.count(3), 120);
    }

    private static void inTheDark() {
        NoHedgeTwice x = Check.landed("@00;@30;ab20:00w5;ab20:00w3~9");
        x.set(2, 0, 1);
        x.rest(45);
        check.due("season(1) from the dark", x.season(1), 2);
        check.row(x, 8, 0);
        check.due("count(3)", x.count(3), 120);
        x.go(0);
        x.rest(39);
        x.sheet(2, 2, 20, 0);
        // 59 by the first: it is dark, day 0 is over
        check.due("season(1)", x.season(1), 1);
        check.row(x, 5, 1);
        check.due("count(3)", x.count(3), 60);
        x.go(1);
        x.rest(39);
        x.set(0, 1, 9);
        x.set(2, 0, 2);
        // back by the second: 29, till 68; there by the first: 88, by the second: not fresh
        check.due("season(1) on into the light of the next day", x.season(1), 2);
        check.row(x, 14, 1);
        check.due("count(3)", x.count(3), 120);
        x.go(0);
        x.set(3, 0, 60);
        x.rest(45);
        check.due("season(3)", x.season(3), 0);
        check.row(x, 0, 0);
        check.due("count(3)", x.count(3), 60);
        x.go(0);
        x.set(3, 0, 59);
        x.rest(45);
        check.due("season(3)", x.season(3), 0);
        check.due("count(3)", x.count(3), 59);
        x.go(0);
        check.due("season(0) by light", x.season(0), 0);
        check.due("count(3)", x.count(3), 0);
    }

    // ---- rounds

    private static void rounds() {
        oddAndMen();
        trails();
        cheapestRounds();
        grassPairs();
    }

    private static void oddAndMen() {
        check.about("promises 19, 20");
        NoHedgeTwice x = Check.landed(APART);
        check.due("odd()", x.odd(), 4);
        check.row(x, 15);
        check.due("men()", x.men(), 2);
        check.row(x, 2);
        land(x, "ab1:00;@00;ae1:00;be1:00", 4);
        // now ab twice, ae, be: a and b are odd; cd apart
        check.due("odd()", x.odd(), 4);
        check.row(x, 15);
        check.due("men()", x.men(), 2);
        check.row(x, 2);
        x = Check.landed("@00;@10;@20;@30;@40;ab1:00;ac1:00;ad1:00;ae1:00");
        check.due("men() of a star", x.men(), 2);
        check.row(x, 1);
        x = Check.landed(TRIANGLE);
        check.due("odd()", x.odd(), 0);
        check.row(x, 0);
        check.due("men()", x.men(), 1);
        check.row(x, 1);
        x = Check.landed("@00;@10");
        check.due("men() without hedges", x.men(), 0);
        check.row(x, 0);
    }

    private static void trails() {
        check.about("promise 21");
        NoHedgeTwice x = Check.landed(TRIANGLE);
        check.due("trail(0)", x.trail(0), 18);
        check.row(x, 0, 1, 2);
        check.due("trail(1)", x.trail(1), 20);
        check.row(x, 0, 2, 1);
        check.due("trail(3)", x.trail(3), -1);
        check.due("trail(-1)", x.trail(-1), -1);
        check.row(x, 0, 2, 1);
        land(x, "@55;ad1:00", 2);
        check.due("trail(1)", x.trail(1), -2);
        check.row(x, 0, 2, 1);
        check.due("trail(0): not by the bridge first", x.trail(0), 19);
        check.row(x, 0, 1, 2, 3);
        check.due("trail(3)", x.trail(3), 19);
        check.row(x, 3, 0, 1, 2);
        check.due("trail(0) of two parts", Check.landed(APART).trail(0), -2);
        x = Check.landed("@00;@10");
        check.due("trail(1) without hedges", x.trail(1), 0);
        check.row(x);
        x = Check.landed("@00;@10;@20;ab1:00;bc1:00;bc1:00");
        check.due("trail(0)", x.trail(0), 3);
        check.row(x, 0, 1, 2);
        check.due("trail(1)", x.trail(1), 3);
        check.row(x, 1, 2, 0);
        check.due("trail(2)", x.trail(2), -2);
    }

    private static void cheapestRounds() {
        check.about("promise 22");
        NoHedgeTwice x = Check.landed(TRIANGLE);
        check.due("round()", x.round(), 18);
        check.row(x, 0);
        x.set(1, 0, 1);
        check.due("round()", x.round(), 18);
        x.set(1, 2, 0);
        x.set(1, 0, 0);
        check.due("round() with no wind", x.round(), 18);
        check.row(x, 0);
        land(x, "@99", 1);
        check.due("round(): a corner without hedges is nothing", x.round(), 18);
        x = Check.landed("@00;@30;ab5:00~4;ab5:00~3;ab5:00~3;ab5:00~9");
        check.due("round()", x.round(), 26);
        check.row(x, 6);
        x.set(1, 0, 3);
        check.due("round() of equal ones", x.round(), 26);
        check.row(x, 3);
        x = Check.landed(APART);
        check.due("round()", x.round(), -2);
        check.due("row stays", x.count(6), 0);
        x = Check.landed(APART, "ab1:00;cd1:00");
        check.due("round() of two parts", x.round(), -2);
        x = Check.landed("@00;@10");
        check.due("round() without hedges", x.round(), 0);
        check.row(x, 0);
        x = Check.landed("@00;@30;@34;ba5:00~4;bc6:00~1;ca7:00~2");
        check.due("round(): two against a weak wind, rather than one", x.round(), 21);
        check.row(x, 6);
    }

    private static void grassPairs() {
        check.about("promises 23, 24");
        NoHedgeTwice x = Check.landed(TRIANGLE);
        check.due("closed()", x.closed(), 0);
        check.row(x);
        check.due("open()", x.open(), 0);
        check.row(x);
        check.due("closed() of two parts", Check.landed(APART).closed(), -2);
        check.due("open() of two parts", Check.landed(APART).open(), -2);
        check.due("closed() without hedges", Check.landed("@00").closed(), 0);
        x = Check.landed("@00;@20;@40;@60;@10;ae1:00;be1:00;ce1:00;de1:00");
        // four ends in a line, the middle even
        check.due("closed()", x.closed(), 8);
        check.row(x, 0, 1, 2, 3);
        check.due("open()", x.open(), 4);
        check.row(x, 0, 1);
        x = Check.landed("@00;@02;@20;@22;@11;ae1:00;be1:00;ce1:00;de1:00");
        check.due("closed() of equal ones", x.closed(), 8);
        check.row(x, 0, 1, 2, 3);
        x = Check.landed("@00;@90;@55;@56;@11;ae1:00;be1:00;ce1:00;de1:00");
        check.due("open(): the first two in no pair", x.open(), 2);
        check.row(x, 2, 3);
        x = Check.landed("@00;@30;ab5:00");
        check.due("closed()", x.closed(), 6);
        check.row(x, 0, 1);
        check.due("open()", x.open(), 0);
        check.row(x);
    }

    // ---- by the frost

    private static void byTheFrost() {
        check.about("promises 25, 26, 27");
        NoHedgeTwice x = Check.landed(TRIANGLE);
        check.due("most(0, 100)", x.most(0, 100), 5);
        check.row(x, 7, 18);
        check.due("most(0, 17)", x.most(0, 17), 4);
        check.row(x, 3, 11);
        check.due("most(0, 4)", x.most(0, 4), 0);
        check.row(x, 0, 0);
        check.due("most(0, 9999)", x.most(0, 9999), 5);
        check.due("most(0, 10000)", x.most(0, 10000), -1);
        check.due("most(0, -1)", x.most(0, -1), -1);
        check.due("most(3, 5)", x.most(3, 5), -1);
        check.due("most(-1, 5)", x.most(-1, 5), -1);
        check.due("home(0, 17)", x.home(0, 17), 0);
        check.row(x, 0, 0);
        check.due("home(0, 18)", x.home(0, 18), 5);
        check.row(x, 7, 18);
        check.due("home(1, 17)", x.home(1, 17), 0);
        check.due("home(2, 10000)", x.home(2, 10000), -1);
        check.due("home(3, 1)", x.home(3, 1), -1);
        check.due("soon(0, 4)", x.soon(0, 4), 11);
        check.row(x, 3);
        check.due("soon(0, 0)", x.soon(0, 0), 0);
        check.row(x, 0);
        check.due("soon(0, 6)", x.soon(0, 6), -2);
        check.due("soon(0, 200)", x.soon(0, 200), -2);
        check.due("soon(0, 201)", x.soon(0, 201), -1);
        check.due("soon(0, -1)", x.soon(0, -1), -1);
        check.due("soon(3, 1)", x.soon(3, 1), -1);
        check.row(x, 0);
        x = Check.landed("@00;@30;ab5:00;ab5:00;ab5:00;ab4:00~1");
        check.due("most(1, 5): of as few minutes the least number", x.most(1, 5), 1);
        check.row(x, 1, 5);
        check.due("most(0, 5): the fewest minutes", x.most(0, 5), 1);
        check.row(x, 8, 4);
        check.due("home(0, 9)", x.home(0, 9), 2);
        check.row(x, 9, 9);
        x.set(0, 0, 0);
        check.due("home(0, 10): worth as much, fewer minutes", x.home(0, 10), 2);
        check.row(x, 10, 9);
        check.due("soon(1, 1)", x.soon(1, 1), 5);
        check.row(x, 2);
        x = Check.landed("@00;@30;ab5:00w0;ab1:00w0g");
        x.walk(0);
        x.set(3, 0, 0);
        check.due("most(0, 9): what is worth nothing is not walked", x.most(0, 9), 0);
        check.row(x, 0, 0);
        x.set(0, 0, 2);
        check.due("most(0, 9): NIGHTS, FROST of the walker do not matter", x.most(0, 9), 2);
        check.row(x, 1, 5);
    }

    // ---- what is cut off

    private static void cutOff() {
        check.about("promises 28, 29");
        NoHedgeTwice x = Check.landed(TRIANGLE, "@99;@88;cd1:00;de1:00;de1:00");
        check.due("bridges()", x.bridges(), 8);
        x.walk(0);
        check.due("bridges() of walked ones", x.bridges(), 8);
        check.due("reach(-1)", x.reach(-1), 31);
        check.due("reach(0), walked", x.reach(0), 31);
        check.due("reach(3)", x.reach(3), 7);
        check.due("reach(1)", x.reach(1), 2);
        NoHedgeTwice y = x;
        check.noSuch("reach(-2)", () -> y.reach(-2));
        check.noSuch("reach(6)", () -> y.reach(6));
        check.noSuch("reach(MIN)", () -> y.reach(MIN));
        check.noSuch("reach(-1) without corners", () -> new NoHedgeTwice().reach(-1));
        check.noSuch("reach(0) without corners", () -> new NoHedgeTwice().reach(0));
        check.due("reach(-1) without hedges", Check.landed("@00;@11").reach(-1), 1);
        check.due("bridges() without hedges", new NoHedgeTwice().bridges(), 0);
        throughGates();
    }

    private static void throughGates() {
        check.about("promise 30");
        NoHedgeTwice x = Check.landed(TRIANGLE);
        check.due("gates(0)", x.gates(0), 9);
        check.row(x, 2);
        check.due("gates(2)", x.gates(2), 7);
        check.due("gates(3)", x.gates(3), -1);
        check.due("gates(-1)", x.gates(-1), -1);
        x = Check.landed("@00;@10;@20;ab5:00");
        check.due("gates(2) without gates", x.gates(2), 0);
        check.row(x);
        x = Check.landed("@00;@10;@20;ab5:00g;bc5:00g");
        check.due("gates(0)", x.gates(0), 10);
        check.row(x, 0, 1);
        check.due("gates(2)", x.gates(2), 10);
        check.row(x, 1, 0);
        check.due("gates(1): the first one shuts", x.gates(1), -2);
        check.row(x, 1, 0);
        land(x, "ab1:00~1", 1);
        check.due("gates(1)", x.gates(1), 11);
        check.row(x, 0, 1);
        check.due("gates(0) with a way back", x.gates(0), 10);
        x = Check.landed("@00;@10;ab5:00g;ab5:00g;ab5:00g");
        check.due("gates(0) of equal ones", x.gates(0), 15);
        check.row(x, 0, 1, 2);
        x = Check.landed("@00;@10;ab5:00~3g;ab5:00g;ab5:00~3g");
        check.due("gates(0)", x.gates(0), 15);
        check.row(x, 0, 1, 2);
        check.due("gates(1)", x.gates(1), 18);
        check.row(x, 0, 2, 1);
        check.due("gates(2) apart from all", Check.landed("@00;@10;@20;ab5:00g").gates(2), -2);
        x = Check.landed("@00;@10;@20;ab1:00;bc9:00g;ac9:00g;bc9:00~9g");
        x.walk(0);
        x.set(3, 0, 0);
        check.due("gates(0)", x.gates(0), 27);
        check.row(x, 2, 1, 3);
    }

    // ---- what is heard

    private static void heard() {
        hearings();
        ways();
        oneWay();
        quarrels();
    }

    private static void hearings() {
        check.about("promises 31, 32");
        NoHedgeTwice x = Check.landed(TRIANGLE);
        check.due("heard(3, 0)", x.heard(3, 0), -1);
        check.due("heard(-1, 0)", x.heard(-1, 0), -1);
        check.due("heard(0, 7)", x.heard(0, 7), -1);
        check.due("heard(0, -1)", x.heard(0, -1), -1);
        check.due("forget()", x.forget(), -1);
        for (int k = 1; k <= 12; k++) {
            check.due("heard(0, 6)", x.heard(0, 6), k);
        }
        check.due("heard(0, 6), the 13th", x.heard(0, 6), -1);
        check.due("count(5)", x.count(5), 12);
        check.due("lies() of none", x.lies(), 0);
        check.due("forget()", x.forget(), 11);
        check.due("heard(0, 0)", x.heard(0, 0), 12);
        check.due("lies()", x.lies(), 1);
        check.row(x, 1 << 11);
        check.due("quarrel()", x.quarrel(), 11);
        check.row(x, 0);
    }

    private static void ways() {
        check.about("promises 33, 34, 35");
        NoHedgeTwice x = Check.landed("@00;@10;ab1:01;ab1:12;ab1:33;ab1:55");
        check.due("lands()", x.lands(), 4096);
        check.row(x, 0);
        check.due("sure()", x.sure(), 0);
        check.row(x);
        // two fields: 4 of 16 ways have 3 together; one field twice: a quarter each
        check.due("next()", x.next(), 0);
        check.row(x, 1024);
        x.heard(0, 5);
        check.due("lands()", x.lands(), 2 * 256);
        check.row(x, 230000);
        check.due("sure()", x.sure(), 0);
        check.row(x);
        // field 1 is 2 or 3: with field 2 it has 2 .. 6, at worst 2 of 8; a field twice: 1 of 4
        check.due("next()", x.next(), 1);
        check.row(x, 128);
        x.heard(2, 4);
        check.due("sure()", x.sure(), 8);
        check.row(x, 2);
        x.heard(1, 6);
        check.due("lands()", x.lands(), 16);
        check.row(x, 233200);
        check.due("sure()", x.sure(), 15);
        check.row(x, 2, 3, 3, 2);
        check.due("next()", x.next(), 3);
        check.row(x, 4);
        x.heard(3, 3);
        check.due("lands(): twice one field is even", x.lands(), 0);
        check.row(x);
        check.due("sure()", x.sure(), 0);
        check.row(x);
        x.lies();
        check.due("next() without ways", x.next(), -2);
        check.row(x, 8);
        check.due("next() without hedges", Check.landed("@00").next(), -2);
    }

    private static void oneWay() {
        for (int n = 0; n <= 3; n += 3) {
            NoHedgeTwice x = Check.landed("@00;@10;ab1:01;ab1:23;ab1:45");
            for (int h = 0; h < 3; h++) {
                x.heard(h, 2 * n);
            }
            check.due("lands() of one way", x.lands(), 1);
            check.row(x, n * 111111);
            check.due("sure() of one way", x.sure(), 63);
            check.row(x, n, n, n, n, n, n);
            check.due("next() of one way", x.next(), 0);
            check.row(x, 1);
            check.due("quarrel() of one way", x.quarrel(), -2);
            check.due("lies() of one way", x.lies(), 0);
            check.row(x, 0);
        }
    }

    private static void quarrels() {
        check.about("promises 36, 37");
        NoHedgeTwice x = Check.landed("@00;@10;ab1:01;ab1:12;ab1:33;ab1:02");
        check.due("lies() of nothing", x.lies(), 0);
        check.row(x, 0);
        check.due("quarrel() of nothing", x.quarrel(), -2);
        check.row(x, 0);
        x.heard(0, 6);
        x.heard(1, 0);
        check.due("quarrel()", x.quarrel(), 1);
        check.row(x, 0);
        check.due("lies(): of as few the least number", x.lies(), 1);
        check.row(x, 1);
        x.heard(0, 5);
        check.due("lies()", x.lies(), 2);
        check.row(x, 3);
        check.due("quarrel()", x.quarrel(), 1);
        x.forget();
        x.forget();
        x.heard(1, 5);
        x.heard(3, 6);
        // fields 0 and 1 have three, so 2 has two, but is heard to have three: no two quarrel
        check.due("quarrel() of three", x.quarrel(), 2);
        check.row(x, -1);
        x.forget();
        x.forget();
        x.forget();
        x.heard(0, 3);
        x.heard(1, 6);
        x.heard(3, 1);
        check.due("quarrel() with the second", x.quarrel(), 2);
        check.row(x, 1);
        check.due("lies()", x.lies(), 1);
        check.row(x, 2);
        x.forget();
        x.heard(2, 5);
        check.due("quarrel() of one that can't be at all", x.quarrel(), 2);
        check.row(x, 0);
        check.due("lies()", x.lies(), 1);
        check.row(x, 4);
        x = Check.landed("@00;@10;ab1:33");
        x.heard(0, 1);
        check.due("quarrel() of the first", x.quarrel(), 0);
        check.row(x, -1);
    }

    // ---- kept

    private static void kept() {
        check.about("promises 38, 39");
        NoHedgeTwice x = new NoHedgeTwice();
        check.due("keep(3)", x.keep(3), false);
        check.due("keep(-1)", x.keep(-1), false);
        check.due("again(0)", x.again(0), false);
        check.due("again(3)", x.again(3), false);
        check.due("again(-1)", x.again(-1), false);
        check.due("keep(0)", x.keep(0), true);
        check.due("again(0)", x.again(0), true);
        check.due("count(2)", x.count(2), -1);
        land(x, TRIANGLE, 6);
        x.walk(0);
        x.set(2, 0, 8);
        x.set(3, 0, 500);
        check.due("keep(1)", x.keep(1), true);
        land(x, "ab3:00", 1);
        x.walk(3);
        x.rest(5);
        check.due("again(1)", x.again(1), true);
        check.due("count(2)", x.count(2), 1);
        check.due("count(3)", x.count(3), 5);
        check.due("hedge(0, 8)", x.hedge(0, 8), 0);
        check.due("hedge(3, 8), told since", x.hedge(3, 8), 1);
        check.due("again(0), kept without corners", x.again(0), true);
        check.due("count(2)", x.count(2), 0);
        check.due("count(3)", x.count(3), 0);
        check.due("hedge(0, 8)", x.hedge(0, 8), 1);
        check.due("NIGHTS stay", x.count(8), 8);
        check.due("FROST stays", x.count(9), 500);
        check.due("again(1) once more", x.again(1), true);
        check.due("count(3)", x.count(3), 5);
        x.walk(1);
        check.due("keep(1) anew", x.keep(1), true);
        x.go(0);
        x.again(1);
        check.due("count(3)", x.count(3), 11);
        check.due("again(2)", x.again(2), false);
        counts();
    }

    private static void counts() {
        check.about("promises 40, 41");
        NoHedgeTwice x = Check.landed(TRIANGLE);
        check.due("count(-1)", x.count(-1), -1);
        check.due("count(10)", x.count(10), -1);
        check.due("count(MIN)", x.count(MIN), -1);
        check.noSuch("row(0) of none", () -> x.row(0));
        check.noSuch("row(-1) of none", () -> x.row(-1));
        x.trail(0);
        check.due("count(6)", x.count(6), 3);
        check.due("row(2)", x.row(2), 2);
        check.noSuch("row(3)", () -> x.row(3));
        check.noSuch("row(-1)", () -> x.row(-1));
        check.noSuch("row(MAX)", () -> x.row(MAX));
        x.odd();
        check.due("count(6)", x.count(6), 1);
        check.noSuch("row(1)", () -> x.row(1));
        Check.say(x, "abcde");
        check.due("count(7)", x.count(7), 5);
        NoHedgeTwice y = Check.landed(TEN, "ab1:00;bc1:00;cd1:00;de1:00;ef1:00;fg1:00;gh1:00;hi1:00;ij1:00;ja1:00");
        land(y, "ac1:00;ca1:00;bd1:00;db1:00", 4);
        check.due("trail(0) of 14", y.trail(0), 14);
        check.due("count(6)", y.count(6), 14);
    }

    private static void refusalsChangeNothing() {
        check.about("term 2, refused calls");
        NoHedgeTwice x = Check.landed(TRIANGLE);
        x.heard(0, 3);
        x.walk(0);
        Check.tour(x, 0, "aA");
        x.trail(0);
        int[] row = Check.rowOf(x);
        x.walk(7);
        x.walk(0);
        x.rest(9999);
        x.go(5);
        x.look(1);
        x.look(4);
        x.meets(3);
        x.meets(-4);
        x.apart();
        x.season(99);
        x.trail(4);
        x.most(4, 4);
        x.home(1, -1);
        x.soon(0, 199);
        x.gates(12);
        x.heard(0, 9);
        x.quarrel();
        x.keep(4);
        x.again(0);
        x.set(7, 7, 7);
        x.sheet(1, -1, 0, 0);
        land(x, "ab", -3);
        check.due("tour(1)", Check.tour(x, 1, "aB"), -2);
        check.row(x, row);
        int[] want = {3, 3, 1, 5, 1, 1, 3, 0, 9, 600};
        for (int what = 0; what < want.length; what++) {
            check.due("count(" + what + ")", x.count(what), want[what]);
        }
        check.due("tour 0 stays", x.look(0), 0);
        check.due("tour 1 is none", x.look(1), -3);
    }
}
