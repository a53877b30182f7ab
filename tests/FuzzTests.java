import java.lang.reflect.InvocationTargetException;
import java.lang.reflect.Method;
import java.util.Arrays;
import java.util.Comparator;
import java.util.List;
import java.util.NoSuchElementException;
import java.util.Random;

/** Wild calls: nothing but the document's exceptions, the same calls answer the same, and the room is kept. */
public final class FuzzTests {
    private static final int RUNS = 600;
    private static final int CALLS = 512;
    private static final List<String> THROWING = List.of("hedge", "reach", "row");

    private static final Check check = new Check();

    public static void main(String[] args) throws Exception {
        Method[] face = Arrays.stream(NoHedgeTwice.class.getDeclaredMethods())
            .filter(m -> java.lang.reflect.Modifier.isPublic(m.getModifiers()))
            .sorted(Comparator.comparing(Method::getName)).toArray(Method[]::new);
        for (int run = 0; run < RUNS; run++) {
            check.about("wild run " + run);
            play(new Random(run), face);
        }
        check.close();
    }

    private static void play(Random dice, Method[] face) throws Exception {
        NoHedgeTwice x = new NoHedgeTwice();
        NoHedgeTwice y = new NoHedgeTwice();
        for (int k = 0; k < CALLS; k++) {
            if (dice.nextInt(6) == 0) {
                String text = text(dice);
                Check.say(x, text);
                Check.say(y, text);
                k += text.length() / 4;
            }
            Method made = face[dice.nextInt(face.length)];
            Object[] with = new Object[made.getParameterCount()];
            for (int i = 0; i < with.length; i++) {
                with[i] = number(dice);
            }
            String call = made.getName() + Arrays.toString(with);
            check.due(call, answer(x, made, with), answer(y, made, with));
        }
    }

    private static long answer(NoHedgeTwice x, Method made, Object[] with) throws IllegalAccessException {
        try {
            Object got = made.invoke(x, with);
            return got instanceof Boolean b ? (b ? 1 : 0) : (Integer) got;
        } catch (InvocationTargetException e) {
            boolean due = e.getCause().getClass() == NoSuchElementException.class && THROWING.contains(made.getName());
            if (!due) {
                check.fault(made.getName() + Arrays.toString(with) + " threw " + e.getCause());
            }
            return Long.MIN_VALUE;
        }
    }

    private static int number(Random dice) {
        switch (dice.nextInt(8)) {
            case 0: return dice.nextInt();
            case 1: return new int[] {Integer.MIN_VALUE, Integer.MAX_VALUE, -1, 9999, 1 << 31}[dice.nextInt(5)];
            case 2: return dice.nextInt(10000);
            case 3: return dice.nextInt(100);
            default: return dice.nextInt(17) - 1;
        }
    }

    private static String text(Random dice) {
        StringBuilder text = new StringBuilder();
        int lines = 1 + dice.nextInt(10);
        for (int k = 0; k < lines; k++) {
            text.append(k == 0 ? "" : ";");
            if (dice.nextInt(4) == 0) {
                text.append('@').append(dice.nextInt(10)).append(dice.nextInt(10));
            } else {
                text.append((char) ('a' + dice.nextInt(4))).append((char) ('a' + dice.nextInt(10)))
                    .append(1 + dice.nextInt(20)).append(':').append(dice.nextInt(6)).append(dice.nextInt(6))
                    .append(dice.nextInt(3) == 0 ? "g" : "");
            }
        }
        if (dice.nextInt(5) == 0) {
            text.setCharAt(dice.nextInt(text.length()), (char) dice.nextInt(256));
        }
        if (dice.nextInt(5) == 0) {
            return (char) ('a' + dice.nextInt(3)) + "AABBCCDDAACCBBEE".substring(0, dice.nextInt(16));
        }
        return text.substring(0, Math.min(text.length(), 76));
    }
}
