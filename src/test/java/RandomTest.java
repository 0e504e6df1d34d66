import java.lang.reflect.Method;
import java.nio.charset.StandardCharsets;
import java.util.ArrayList;
import java.util.Arrays;
import java.util.Comparator;
import java.util.List;
import java.util.Random;

/** Runs of calls by chance, from fixed seeds, on the class and on the model that tries everything. */
public final class RandomTest {
    private static final List<String> SLOW = List.of("kept", "cost", "block", "grid", "loses", "best", "off",
        "luck", "upto", "drift", "ends", "runs", "begins");
    private static int wrong;
    private static long asked;

    private final LikeYears real = new LikeYears();
    private final Model model = new Model();
    private final Random r;
    private final boolean small;
    private final StringBuilder log = new StringBuilder();
    private List<String> marks = new ArrayList<>();
    /** What is answered behind the 512th call is free. */
    private int callsLeft = 512;

    private RandomTest(long seed, boolean small) {
        r = new Random(seed);
        this.small = small;
    }

    private static Method[] calls() {
        Method[] m = Arrays.stream(Model.class.getDeclaredMethods())
            .filter(x -> java.lang.reflect.Modifier.isPublic(x.getModifiers())).toArray(Method[]::new);
        Arrays.sort(m, Comparator.comparing(Method::getName));
        return m;
    }

    private boolean ask(Method m, Object... args) throws Exception {
        if (callsLeft < 3) {
            return false;
        }
        callsLeft--;
        Object want = m.invoke(model, args);
        Object got = LikeYears.class.getMethod(m.getName(), m.getParameterTypes()).invoke(real, args);
        asked++;
        log.append(m.getName()).append(Arrays.toString(args)).append(" = ").append(want).append('\n');
        if (!want.equals(got)) {
            wrong++;
            System.out.println(log + "ANSWERED " + got);
            return false;
        }
        return true;
    }

    private boolean ask(String name, Object... args) throws Exception {
        for (Method m : calls()) {
            if (m.getName().equals(name)) {
                return ask(m, args);
            }
        }
        throw new IllegalStateException(name);
    }

    private boolean text(String s, String reader) throws Exception {
        byte[] b = s.getBytes(StandardCharsets.ISO_8859_1);
        log.append("TEXT ").append(s).append('\n');
        boolean good = ask("end", 0);
        for (int at = 0; good && at < b.length; at += 20) {
            good = ask("feed", Texts.four(b, at), Texts.four(b, at + 4), Texts.four(b, at + 8),
                Texts.four(b, at + 12), Texts.four(b, at + 16));
        }
        return good && ask("end", b.length) && ask(reader) && ask("fault", 0) && ask("fault", 1);
    }

    private boolean newBook() throws Exception {
        List<String> t = Books.bookTokens(r, small ? 5 : 16);
        List<String> names = Books.markNames(t);
        boolean spoilt = r.nextInt(3) == 0;
        for (int i = 0; spoilt && i <= r.nextInt(3); i++) {
            Books.spoil(r, t);
        }
        boolean good = text(Books.glue(r, t), "book");
        if (good && real.fault(0) == 0) {
            marks = names;
        }
        callsLeft--;
        return good;
    }

    private boolean newLaws() throws Exception {
        List<String> t = Books.lawTokens(r, marks);
        if (r.nextInt(3) == 0) {
            Books.spoil(r, t);
        }
        return text(Books.glue(r, t), "laws");
    }

    private int number(String call, int at) {
        int wild = r.nextInt(25);
        if (wild == 0) {
            return List.of(-1, 3, 6, 7, 16, 17, 100, 241, Integer.MIN_VALUE, Integer.MAX_VALUE).get(r.nextInt(10));
        }
        return switch (call) {
            case "feed" -> r.nextInt();
            case "end" -> r.nextInt(40);
            case "clash", "oddest", "again", "moved", "keep", "back", "fault" -> r.nextInt(3);
            case "worse", "beside", "block", "lawOf" -> r.nextInt(small ? 6 : 16);
            case "kept" -> at == 0 ? r.nextInt(3) : at == 1 ? r.nextInt(6) : r.nextInt(2);
            case "cost" -> at == 0 ? r.nextInt(3) : r.nextInt(2);
            case "grid", "loses" -> at == 2 ? r.nextInt(2) : at + r.nextInt(3);
            case "runs", "begins" -> at == 0 ? r.nextInt(3) : at == 1 ? 1 + r.nextInt(6) : r.nextInt(2);
            case "upto", "drift" -> at == 0 ? r.nextInt(r.nextBoolean() ? 4 : 100) : r.nextInt(2);
            case "off", "luck" -> at == 0 ? r.nextInt(4) : r.nextInt(2);
            case "law" -> at == 0 ? r.nextInt(3) : at == 1 ? r.nextInt(4) : at == 2 ? r.nextInt(150)
                : at == 3 ? 100 + r.nextInt(141) : r.nextInt(2);
            case "step" -> at == 0 ? r.nextInt(4) : r.nextInt(5);
            case "come" -> at == 0 ? r.nextInt(4) : at == 1 ? r.nextInt(5) : at == 2 ? r.nextInt(241) : 1 + r.nextInt(4);
            case "give" -> at == 0 ? r.nextInt(small ? 6 : 16) : r.nextInt(241);
            case "first" -> r.nextInt(241);
            case "about" -> r.nextInt(28);
            default -> r.nextInt(3);
        };
    }

    private boolean anyCall(Method m) throws Exception {
        Class<?>[] types = m.getParameterTypes();
        Object[] args = new Object[types.length];
        for (int i = 0; i < args.length; i++) {
            args[i] = types[i] == boolean.class ? (Object) r.nextBoolean() : (Object) number(m.getName(), i);
        }
        return ask(m, args);
    }

    private void run(int steps) throws Exception {
        Method[] all = calls();
        for (int i = 0; i < steps; i++) {
            Method m = all[r.nextInt(all.length)];
            boolean reads = m.getName().equals("book") || m.getName().equals("laws") || m.getName().equals("feed");
            boolean good;
            boolean full = m.getName().equals("come") && small && real.about(1) >= 7;
            callsLeft -= m.getName().equals("come") && small ? 1 : 0;
            if (i == 0 || reads && r.nextInt(8) == 0) {
                good = newBook();
            } else if (reads && r.nextInt(6) == 0) {
                good = newLaws();
            } else if (reads && r.nextInt(4) > 0 || full) {
                good = true;
            } else {
                good = !small && SLOW.contains(m.getName()) || anyCall(m);
            }
            if (!good) {
                return;
            }
        }
    }

    public static void main(String[] args) throws Exception {
        int times = args.length > 0 ? Integer.parseInt(args[0]) : 250;
        for (int seed = 0; seed < times && wrong < 3; seed++) {
            new RandomTest(seed, true).run(120);
            new RandomTest(1000000 + seed, false).run(120);
        }
        System.out.println("RandomTest: " + asked + " answers, " + wrong + " wrong");
        if (wrong != 0) {
            System.exit(1);
        }
    }
}
