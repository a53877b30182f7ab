import java.util.ArrayList;
import java.util.List;
import java.util.NoSuchElementException;
import java.util.function.Supplier;
import java.util.function.ToIntFunction;

/**
 * Two objects made by the same calls: one of them gets a call that must change
 * nothing, then all that can be asked of both must be alike.
 */
final class Twins {
    static final int THROWN = -12345678;

    private Twins() {
    }

    /** Much of everything: walks to undo, tours, what is kept, hearings, a ROW, THE TEXT. */
    static NoHedgeTwice busy() {
        NoHedgeTwice x = Check.landed("@00;@30;@34;@04;@99;ab5:01;bc6:12w3;ca7:20~2g;cd4:33;da3:45w0");
        x.set(2, 0, 2);
        x.set(3, 0, 900);
        Check.tour(x, 0, "aABC");
        Check.tour(x, 1, "cBA");
        x.heard(0, 3);
        x.heard(1, 4);
        x.heard(3, 2);
        x.walk(0);
        x.keep(0);
        x.rest(5);
        x.walk(1);
        x.keep(2);
        x.walk(3);
        x.most(0, 30);
        Check.say(x, "bB");
        return x;
    }

    static int is(boolean answer) {
        return answer ? 1 : 0;
    }

    static int answer(NoHedgeTwice x, ToIntFunction<NoHedgeTwice> call) {
        try {
            return call.applyAsInt(x);
        } catch (NoSuchElementException due) {
            return THROWN;
        }
    }

    /** The call answers so and changes nothing. */
    static void unchanged(Check check, String name, Supplier<NoHedgeTwice> made,
            ToIntFunction<NoHedgeTwice> call, int want) {
        compare(check, name, made.get(), made.get(), call, want);
    }

    /** The call answers so, THE TEXT is empty then, and nothing else changes. */
    static void textAlone(Check check, String name, Supplier<NoHedgeTwice> made,
            ToIntFunction<NoHedgeTwice> call, int want) {
        NoHedgeTwice other = made.get();
        other.end(0);
        compare(check, name, made.get(), other, call, want);
    }

    private static void compare(Check check, String name, NoHedgeTwice x, NoHedgeTwice other,
            ToIntFunction<NoHedgeTwice> call, int want) {
        check.due(name, answer(x, call), want);
        List<String> got = all(x);
        List<String> due = all(other);
        check.due(name + ": as much can be asked as before", got.size(), due.size());
        for (int k = 0; k < Math.min(got.size(), due.size()); k++) {
            if (!got.get(k).equals(due.get(k))) {
                check.fault(name + " changed " + due.get(k) + " to " + got.get(k));
                return;
            }
        }
    }

    /** What the object tells; it is of no use behind that. */
    private static List<String> all(NoHedgeTwice x) {
        List<String> told = new ArrayList<>();
        tell(told, "counts", x);
        for (int h = 0; h < x.count(1); h++) {
            for (int what = 0; what <= 8; what++) {
                told.add("hedge(" + h + ", " + what + ") " + x.hedge(h, what));
            }
        }
        for (int a = 0; a < x.count(0); a++) {
            for (int b = 0; b < x.count(0); b++) {
                told.add("grass(" + a + ", " + b + ") " + x.grass(a, b));
            }
        }
        told.add("can() " + x.can());
        told.add("reach(-1) " + answer(x, y -> y.reach(-1)));
        tellTours(told, x);
        tellText(told, x);
        tellHeard(told, x);
        tellWalks(told, x);
        return told;
    }

    private static void tell(List<String> told, String name, NoHedgeTwice x) {
        for (int what = 0; what <= 9; what++) {
            told.add(name + ", count(" + what + ") " + x.count(what));
        }
        tellRow(told, name, x);
    }

    private static void tellRow(List<String> told, String name, NoHedgeTwice x) {
        for (int i = 0; i < x.count(6); i++) {
            told.add(name + ", row(" + i + ") " + x.row(i));
        }
    }

    private static void tellTours(List<String> told, NoHedgeTwice x) {
        for (int i = 0; i < 2; i++) {
            told.add("look(" + i + ") " + x.look(i));
            tellRow(told, "look(" + i + ")", x);
        }
        for (int wait = 0; wait <= 99; wait++) {
            told.add("meets(" + wait + ") " + x.meets(wait));
        }
        told.add("apart() " + x.apart());
    }

    /** Laid down as a TOUR, THE TEXT tells its signs, if they are one. */
    private static void tellText(List<String> told, NoHedgeTwice x) {
        told.add("tour(1) of THE TEXT " + x.tour(1));
        tellRow(told, "tour(1) of THE TEXT", x);
        told.add("look(1) of THE TEXT " + x.look(1));
    }

    private static void tellHeard(List<String> told, NoHedgeTwice x) {
        boolean more = true;
        while (more) {
            told.add("lands() " + x.lands());
            told.add("lies() " + x.lies());
            tellRow(told, "lies()", x);
            told.add("quarrel() " + x.quarrel());
            int left = x.forget();
            told.add("forget() " + left);
            more = left >= 0;
        }
    }

    private static void tellWalks(List<String> told, NoHedgeTwice x) {
        boolean more = true;
        while (more) {
            int left = x.undo();
            told.add("undo() " + left);
            tellWalker(told, "undone", x);
            more = left >= 0;
        }
        for (int i = 0; i < 3; i++) {
            told.add("again(" + i + ") " + x.again(i));
            tellWalker(told, "again", x);
        }
    }

    private static void tellWalker(List<String> told, String name, NoHedgeTwice x) {
        tell(told, name, x);
        for (int nights = 0; nights <= 3; nights++) {
            x.set(2, 0, nights);
            for (int h = 0; h < x.count(1); h++) {
                told.add(name + ", hedge(" + h + ", 8) for " + nights + " NIGHTS " + x.hedge(h, 8));
            }
        }
    }
}
