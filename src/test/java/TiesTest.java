import java.lang.reflect.Method;
import java.lang.reflect.Modifier;
import java.nio.charset.StandardCharsets;
import java.util.Arrays;
import java.util.HashMap;
import java.util.Map;
import java.util.Random;

/**
 * Books of few steps and few different months, with told lines among them: so many are like, of like worth, of like
 * cost. Of each all that can be asked about fits is asked of the class and of the model that tries everything.
 */
public final class TiesTest {
    private static final Checks CHECKS = new Checks("TiesTest");
    private static final Map<String, Method> CLASS = publicOnes(LikeYears.class);
    private static final Map<String, Method> MODEL = publicOnes(Model.class);

    private final Random r;
    private final String text;
    private final LikeYears real = new LikeYears();
    private final Model model = new Model();

    private TiesTest(long seed) {
        r = new Random(seed);
        text = bookText();
    }

    private static Map<String, Method> publicOnes(Class<?> c) {
        Map<String, Method> all = new HashMap<>();
        for (Method m : c.getDeclaredMethods()) {
            if (Modifier.isPublic(m.getModifiers())) {
                all.put(m.getName(), m);
            }
        }
        return all;
    }

    private String bookText() {
        StringBuilder s = new StringBuilder();
        int[] tops = new int[r.nextInt(4)];
        for (int m = 0; m < tops.length; m++) {
            tops[m] = 1 + r.nextInt(r.nextInt(3) == 0 ? 11 : 3);
            s.append("mark m").append(letter(m)).append(" to ").append(tops[m]).append(';');
            s.append(r.nextInt(4) == 0 ? "never m" + letter(m) + ";" : "");
        }
        int cases = r.nextInt(8);
        int span = 1 + r.nextInt(r.nextInt(3) == 0 ? 240 : 5);
        int weights = 1 + r.nextInt(4);
        for (int c = 0; c < cases; c++) {
            s.append("case c").append(letter(c)).append(" judge ").append(r.nextInt(3)).append(" in ")
                .append(r.nextInt(3)).append(" given ").append(r.nextInt(span + 1)).append(" weight ")
                .append(1 + r.nextInt(weights));
            for (int m = 0; m < tops.length; m++) {
                s.append(r.nextInt(4) > 0 ? " m" + letter(m) + " " + r.nextInt(tops[m] + 1) : "");
            }
            s.append(';');
        }
        for (int t = cases > 1 ? r.nextInt(4) : 0; t > 0; t--) {
            s.append("told c").append(letter(r.nextInt(cases))).append(" over c").append(letter(r.nextInt(cases)))
                .append(';');
        }
        return s.toString();
    }

    private static char letter(int n) {
        return (char) ('a' + n);
    }

    private void ask(String name, Object... args) throws ReflectiveOperationException {
        Object got = CLASS.get(name).invoke(real, args);
        Object want = MODEL.get(name).invoke(model, args);
        CHECKS.yes(name + Arrays.toString(args) + " is " + got + ", due is " + want + ", in " + text, got.equals(want));
    }

    private void askParts(String name, Object... args) throws ReflectiveOperationException {
        Object[] more = Arrays.copyOf(args, args.length + 1);
        for (int part = 0; part < 2; part++) {
            more[args.length] = part;
            ask(name, more);
        }
    }

    private boolean read() throws ReflectiveOperationException {
        byte[] b = text.getBytes(StandardCharsets.ISO_8859_1);
        for (int at = 0; at < b.length; at += 20) {
            ask("feed", Texts.four(b, at), Texts.four(b, at + 4), Texts.four(b, at + 8), Texts.four(b, at + 12),
                Texts.four(b, at + 16));
        }
        ask("end", b.length);
        ask("book");
        ask("fault", 0);
        ask("fault", 1);
        return real.fault(0) == 0;
    }

    private void numbers() throws ReflectiveOperationException {
        for (int i = 0; i < 3; i++) {
            ask("clash", i);
            ask("oddest", i);
            ask("again", i);
            ask("off", i);
            askParts("cost", i);
            askParts("luck", i);
            askParts("upto", i);
            askParts("drift", i);
        }
        ask("within");
        ask("best");
        ask("mercy", 0);
        ask("mercy", 1);
    }

    private void cases(int number) throws ReflectiveOperationException {
        for (int c = 0; c < number; c++) {
            ask("beside", c);
            ask("block", c);
            ask("kept", 0, c, r.nextInt(2));
            ask("kept", 1, c, 0);
            ask("kept", 2, c, r.nextInt(2));
        }
    }

    private void marks(int number) throws ReflectiveOperationException {
        for (int a = 0; a < number; a++) {
            for (int most = 1; most < 4; most++) {
                ask("runs", a, most, r.nextInt(2));
                ask("begins", a, most);
            }
            for (int b = a + 1; b < number; b++) {
                ask("grid", a, b, r.nextInt(2));
                askParts("loses", a, b);
            }
            ask("step", a, r.nextInt(4));
        }
        askParts("ends", true);
        askParts("ends", false);
        ask("first", r.nextInt(6));
    }

    private void change(int cases, int marks) throws ReflectiveOperationException {
        if (cases < 8) {
            ask("come", r.nextInt(3), r.nextInt(3), r.nextInt(6), 1 + r.nextInt(4));
        }
        ask("count", r.nextInt(marks + 1), r.nextBoolean());
        ask("give", r.nextInt(cases + 1), r.nextInt(8));
        if (r.nextBoolean()) {
            ask("undo");
            ask(r.nextBoolean() ? "undo" : "redo");
        }
    }

    /** Two rounds, with acts between them, stay far below 512 calls. */
    private boolean run() throws ReflectiveOperationException {
        if (!read()) {
            return false;
        }
        for (int round = 0; round < 2; round++) {
            int cases = real.about(1);
            int marks = real.about(0);
            numbers();
            cases(cases);
            marks(marks);
            change(cases, marks);
        }
        return true;
    }

    public static void main(String[] args) throws ReflectiveOperationException {
        int times = args.length > 0 ? Integer.parseInt(args[0]) : 500;
        int good = 0;
        for (int seed = 0; seed < times; seed++) {
            good += new TiesTest(seed).run() ? 1 : 0;
        }
        CHECKS.yes("a third of the books are good", good > times / 3);
        CHECKS.finish();
    }
}
