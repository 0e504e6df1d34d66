import java.util.ArrayList;
import java.util.List;
import java.util.Set;
import java.util.TreeSet;
import java.util.function.Supplier;
import java.util.function.ToLongFunction;

/**
 * Every argument of every call on both sides of its limits and at the least and the greatest int; and that
 * a call that is refused, or a question, changes nothing.
 */
public final class ArgumentEdgesTest {
    private static final Checks T = new Checks("ArgumentEdgesTest");
    private static final int MIN = Integer.MIN_VALUE;
    private static final int MAX = Integer.MAX_VALUE;
    private static final long NO = -1000000000000L;
    private static final String BOOK = "mark harm to 3;mark gain to 2;mark late to 11;never late;"
        + "case a judge 1 in 5 given 24 weight 1 harm 2 late 4;"
        + "case b judge 1 in 5 given 36 weight 1 harm 1 late 7;"
        + "case c judge 2 in 6 given 13 weight 2 harm 3 gain 1;"
        + "case d judge 2 in 6 given 6 weight 1;"
        + "case e judge 9 in 99 given 20 weight 4 gain 2;told e over a;";

    private interface Call {
        long of(LikeYears x, int[] a);
    }

    /** An object that has something of all there is: laws, boxes, acts done and taken back, a tape, a fault. */
    private static LikeYears rich() {
        LikeYears x = Texts.withBook(BOOK);
        Texts.feed(x, "when harm>1 least 20 most 30;when judge=9 and gain least 0 most 19;");
        x.laws();
        x.keep(0);
        x.step(0, 2);
        x.step(2, 5);
        x.come(3, 7, 77, 3);
        x.give(0, 99);
        x.keep(2);
        x.count(2, true);
        x.give(1, 5);
        x.give(2, 240);
        x.undo();
        x.undo();
        x.step(1, 1);
        x.step(2, 9);
        Texts.feed(x, "mark");
        x.book();
        Texts.feed(x, "when gain=1 least 3 most 4;");
        return x;
    }

    private static long flag(boolean b) {
        return b ? 1 : 0;
    }

    /** Ints beyond a range: next to it, far off, and such as would fall into it if they were cut short. */
    private static Set<Integer> beyond(int least, int most) {
        Set<Integer> all = new TreeSet<>();
        for (int low : new int[] {least, most}) {
            for (int n : new int[] {low - 1, low + 1, low - 2, low + 2, low + 256, low - 256, low + 65536, low - 65536,
                low ^ MIN, ~low, -low, 31, 32, 33, low + 32, low - 32, low + 64}) {
                all.add(n);
            }
        }
        all.addAll(List.of(MIN, MIN + 1, MAX, MAX - 1, -1, 1 << 30, -1 << 30));
        all.removeIf(n -> n >= least && n <= most);
        return all;
    }

    private static void limits(String name, Call call, long due, int[] base, int at, int least, int most) {
        String what = name + ", argument " + (at + 1) + " is ";
        for (int n : beyond(least, most)) {
            int[] a = base.clone();
            a[at] = n;
            T.same(what + n, call.of(rich(), a), due);
        }
        for (int n : new int[] {least, most}) {
            int[] a = base.clone();
            a[at] = n;
            if (call.of(rich(), a) == due) {
                T.tell(what + n + ", which can be, but was answered " + due);
            }
        }
    }

    /** One call with each of its arguments beyond its limits. */
    private static void all(String name, Call call, long due, int[] base, int... ranges) {
        for (int i = 0; i < base.length; i++) {
            limits(name, call, due, base, i, ranges[2 * i], ranges[2 * i + 1]);
        }
        for (int wild : new int[] {MIN, -1, MAX}) {
            int[] a = base.clone();
            java.util.Arrays.fill(a, wild);
            T.same(name + ", all arguments " + wild, call.of(rich(), a), due);
        }
    }

    private static void questions() {
        all("worse", (x, a) -> x.worse(a[0], a[1]), -1, new int[] {0, 1}, 0, 5, 0, 5);
        all("clash", (x, a) -> x.clash(a[0]), -1, new int[] {0}, 0, 2);
        all("oddest", (x, a) -> x.oddest(a[0]), -1, new int[] {0}, 0, 2);
        all("kept", (x, a) -> x.kept(a[0], a[1], a[2]), -1, new int[] {0, 1, 0}, 0, 2, 0, 5, 0, 1);
        all("kept by gaps", (x, a) -> x.kept(1, a[0], a[1]), -1, new int[] {1, 0}, 0, 5, 0, 1);
        all("kept by the greatest", (x, a) -> x.kept(2, a[0], a[1]), -1, new int[] {1, 0}, 0, 5, 0, 1);
        all("cost", (x, a) -> x.cost(a[0], a[1]), -1, new int[] {0, 0}, 0, 2, 0, 1);
        all("cost by gaps", (x, a) -> x.cost(1, a[0]), -1, new int[] {0}, 0, 1);
        all("cost by the greatest", (x, a) -> x.cost(2, a[0]), -1, new int[] {0}, 0, 1);
        all("block", (x, a) -> x.block(a[0]), -1, new int[] {0}, 0, 5);
        all("again", (x, a) -> x.again(a[0]), -1, new int[] {0}, 0, 2);
        all("grid", (x, a) -> x.grid(a[0], a[1], a[2]), -1, new int[] {0, 2, 0}, 0, 1, 1, 2, 0, 1);
        limits("grid", (x, a) -> x.grid(a[0], a[1], 0), -1, new int[] {1, 2}, 1, 2, 2);
        limits("grid", (x, a) -> x.grid(a[0], a[1], 0), -1, new int[] {0, 1}, 0, 0, 0);
        all("loses", (x, a) -> x.loses(a[0], a[1], a[2]), NO, new int[] {0, 2, 0}, 0, 1, 1, 2, 0, 1);
        limits("loses", (x, a) -> x.loses(a[0], a[1], 0), NO, new int[] {1, 2}, 1, 2, 2);
        limits("loses", (x, a) -> x.loses(a[0], a[1], 0), NO, new int[] {0, 1}, 0, 0, 0);
        all("runs", (x, a) -> x.runs(a[0], a[1], a[2]), -1, new int[] {0, 2, 0}, 0, 2, 1, 12, 0, 1);
        all("begins", (x, a) -> x.begins(a[0], a[1]), -1, new int[] {0, 2}, 0, 2, 1, 12);
        all("off", (x, a) -> x.off(a[0]), -1, new int[] {0}, 0, 9);
        limits("luck", (x, a) -> x.luck(a[0], a[1]), -1, new int[] {1, 0}, 1, 0, 1);
        all("upto", (x, a) -> x.upto(a[0], a[1]), -1, new int[] {5, 0}, 0, 99, 0, 1);
        all("drift", (x, a) -> x.drift(a[0], a[1]), NO, new int[] {5, 0}, 0, 99, 0, 1);
        all("law", (x, a) -> x.law(a[0], a[1], a[2], a[3], a[4]), -1, new int[] {0, 1, 20, 30, 0}, 0, 2, 0, 3, 0, 30, 20, 240, 0, 1);
        limits("law", (x, a) -> x.law(a[0], a[1], a[2], a[3], 1), -1, new int[] {2, 1, 240, 240}, 1, 0, 11);
        limits("law", (x, a) -> x.law(a[0], a[1], a[2], a[3], 1), -1, new int[] {1, 1, 0, 240}, 2, 0, 240);
        limits("law", (x, a) -> x.law(a[0], a[1], a[2], a[3], 1), -1, new int[] {1, 1, 0, 0}, 3, 0, 240);
        limits("law", (x, a) -> x.law(a[0], a[1], a[2], a[3], 1), -1, new int[] {1, 1, 240, 240}, 3, 240, 240);
        for (int a : beyond(0, 5)) {
            T.same("beside(" + a + ")", rich().beside(a), -1);
            T.same("lawOf(" + a + ")", rich().lawOf(a), -1);
        }
        for (int judge : beyond(0, 9)) {
            T.same("luck(" + judge + ", 0)", rich().luck(judge, 0), -1);
            T.same("luck(" + judge + ", 1)", rich().luck(judge, 1), -1);
        }
        for (int judge = 0; judge <= 9; judge++) {
            boolean has = judge == 1 || judge == 2 || judge == 3 || judge == 9;
            T.same("luck of judge " + judge + " can be", flag(rich().luck(judge, 1) > 0), flag(has));
        }
        whats();
    }

    private static void whats() {
        for (int what : beyond(0, 2)) {
            T.same("moved(" + what + ")", rich().moved(what), -1);
        }
        for (int what : beyond(0, 1)) {
            T.same("fault(" + what + ")", rich().fault(what), -1);
            T.same("mercy(" + what + ")", rich().mercy(what), -1);
            T.same("ends(false, " + what + ")", rich().ends(false, what), -1);
            T.same("ends(true, " + what + ")", rich().ends(true, what), -1);
        }
        for (int given : beyond(0, 240)) {
            T.same("first(" + given + ")", rich().first(given), -1);
        }
        T.same("first(0) can be", flag(rich().first(0) >= 0), 1);
        LikeYears under = rich();
        under.step(2, 0);
        T.same("first(240) can be", under.first(240), 2);
        for (int what : beyond(0, 5)) {
            T.same("about(" + what + ")", rich().about(what), what >= 10 && what <= 15 ? rich().about(what) : -1);
        }
        for (int what : beyond(10, 15)) {
            T.same("about(" + what + ") as a case", rich().about(what), what >= 0 && what <= 5 ? rich().about(what) : -1);
        }
        int[] about = {3, 6, 1, 3, 27, 2};
        for (int what = 0; what < 6; what++) {
            T.same("about(" + what + ")", rich().about(what), about[what]);
        }
        int[] given = {99, 36, 13, 6, 20, 77};
        for (int c = 0; c < 6; c++) {
            T.same("about(" + (10 + c) + ")", rich().about(10 + c), given[c]);
        }
    }

    /** The call answers as is due and, for what an object holds, it is as if it had not been. */
    private static void stays(String what, Supplier<LikeYears> twin, ToLongFunction<LikeYears> call, long due) {
        T.same(what, call.applyAsLong(twin.get()), due);
        compare(what, Whole.of(twin), Whole.of(() -> behind(twin, call)));
    }

    /** Likewise but for the tape and the latest fault, which are as the document says of that call. */
    private static void allElseStays(String what, Supplier<LikeYears> twin, ToLongFunction<LikeYears> call, long due) {
        T.same(what, call.applyAsLong(twin.get()), due);
        compare(what, Whole.withoutTape(twin), Whole.withoutTape(() -> behind(twin, call)));
        T.same("the tape behind " + what, behind(twin, call).about(4), 0);
    }

    private static LikeYears behind(Supplier<LikeYears> twin, ToLongFunction<LikeYears> call) {
        LikeYears x = twin.get();
        call.applyAsLong(x);
        return x;
    }

    private static void compare(String what, List<String> before, List<String> after) {
        T.same("how much is held behind " + what, after.size(), before.size());
        for (int i = 0; i < before.size() && i < after.size(); i++) {
            if (!before.get(i).equals(after.get(i))) {
                T.tell("behind " + what + ": " + after.get(i) + ", due is " + before.get(i));
                return;
            }
        }
    }

    private static void refusedCalls() {
        Supplier<LikeYears> r = ArgumentEdgesTest::rich;
        all("step", (x, a) -> flag(x.step(a[0], a[1])), 0, new int[] {0, 1}, 0, 2, 0, 3);
        limits("step", (x, a) -> flag(x.step(a[0], a[1])), 0, new int[] {1, 1}, 1, 0, 2);
        limits("step", (x, a) -> flag(x.step(a[0], a[1])), 0, new int[] {2, 1}, 1, 0, 11);
        all("come", (x, a) -> x.come(a[0], a[1], a[2], a[3]), -1, new int[] {1, 2, 3, 4}, 0, 9, 0, 99, 0, 240, 1, 4);
        for (int mark : beyond(0, 2)) {
            T.no("count(" + mark + ", false)", rich().count(mark, false));
            T.no("count(" + mark + ", true)", rich().count(mark, true));
        }
        T.yes("count(0, false)", rich().count(0, false));
        T.yes("count(2, false)", rich().count(2, false));
        limits("count", (x, a) -> flag(x.undo() && x.count(a[0], true)), 0, new int[] {2}, 0, 2, 2);
        limits("give", (x, a) -> flag(x.give(a[0], a[1])), 0, new int[] {0, 50}, 0, 0, 5);
        limits("give", (x, a) -> flag(x.give(a[0], a[1])), 0, new int[] {0, 50}, 1, 0, 240);
        all("keep", (x, a) -> x.keep(a[0]), -1, new int[] {0}, 0, 2);
        limits("back", (x, a) -> x.keep(1) + x.back(a[0]) - 6, -1, new int[] {0}, 0, 0, 2);
        limits("end", (x, a) -> x.end(a[0]), -1, new int[] {0}, 0, 0, 27);
        for (int wild : new int[] {MIN, -1, MAX}) {
            stays("step(" + wild + ", 0)", r, x -> flag(x.step(wild, 0)), 0);
            stays("step(0, " + wild + ")", r, x -> flag(x.step(0, wild)), 0);
            stays("come(" + wild + ", ..)", r, x -> x.come(wild, 0, 0, 1), -1);
            stays("come(0, " + wild + ", ..)", r, x -> x.come(0, wild, 0, 1), -1);
            stays("come(.., " + wild + ", 1)", r, x -> x.come(0, 0, wild, 1), -1);
            stays("come(.., " + wild + ")", r, x -> x.come(0, 0, 0, wild), -1);
            stays("count(" + wild + ", true)", r, x -> flag(x.count(wild, true)), 0);
            stays("count(" + wild + ", false)", r, x -> flag(x.count(wild, false)), 0);
            stays("give(" + wild + ", 0)", r, x -> flag(x.give(wild, 0)), 0);
            stays("give(0, " + wild + ")", r, x -> flag(x.give(0, wild)), 0);
            stays("keep(" + wild + ")", r, x -> x.keep(wild), -1);
            stays("back(" + wild + ")", r, x -> x.back(wild), -1);
            stays("end(" + wild + ")", r, x -> x.end(wild), -1);
        }
        stays("step(0, 4)", r, x -> flag(x.step(0, 4)), 0);
        stays("step(3, 0)", r, x -> flag(x.step(3, 0)), 0);
        stays("come(10, ..)", r, x -> x.come(10, 0, 0, 1), -1);
        stays("come(0, 100, ..)", r, x -> x.come(0, 100, 0, 1), -1);
        stays("come(.., 241, 1)", r, x -> x.come(0, 0, 241, 1), -1);
        stays("come(.., 0)", r, x -> x.come(0, 0, 0, 0), -1);
        stays("come(.., 5)", r, x -> x.come(0, 0, 0, 5), -1);
        stays("count(0, true), it is so already", r, x -> flag(x.count(0, true)), 0);
        stays("count(2, true), it is so already", r, x -> flag(x.count(2, true)), 0);
        stays("count(2, false), it is so already", () -> behind(r, x -> flag(x.undo())), x -> flag(x.count(2, false)), 0);
        stays("count(1, false), fault 6 would come", r, x -> flag(x.count(1, false)), 0);
        stays("count(3, false)", r, x -> flag(x.count(3, false)), 0);
        stays("give(0, 99), it was", r, x -> flag(x.give(0, 99)), 0);
        stays("give(0, 241)", r, x -> flag(x.give(0, 241)), 0);
        stays("give(6, 1)", r, x -> flag(x.give(6, 1)), 0);
        stays("keep(3)", r, x -> x.keep(3), -1);
        stays("back(1), nothing was kept", r, x -> x.back(1), -1);
        stays("back(3)", r, x -> x.back(3), -1);
        stays("end(28)", r, x -> x.end(28), -1);
        stays("end(27), all of it", r, x -> x.end(27), 27);
        texts(r);
    }

    private static void texts(Supplier<LikeYears> r) {
        Supplier<LikeYears> full = () -> {
            LikeYears x = rich();
            for (int i = 0; i < 63; i++) {
                x.feed(0x20202020, 0x20202020, 0x20202020, 0x20202020, 0x20202020);
            }
            return x;
        };
        stays("feed over 1,300", full, x -> x.feed(0x3B3B3B3B, 1, MIN, MAX, -1), -1);
        stays("laws of more than 500 bytes", full, x -> x.laws(), -2);
        for (String text : new String[] {"", "mark", "#", "mark harm to 3;mark harm to 3;", "mark a to 12;", "never a;",
            "mark a to 1;never a;case p judge 0 in 0 given 9 weight 1;told p over p;", BOOK + "told a over e;",
            BOOK + "case f"}) {
            Supplier<LikeYears> fed = () -> {
                LikeYears x = rich();
                x.end(0);
                Texts.feed(x, text.isEmpty() ? "told" : text);
                return x;
            };
            allElseStays("book() of " + text, fed, x -> x.book(), -1);
        }
        for (String text : new String[] {"when", "?", "when nobody", "when 1 least 2 most 1;",
            "when 1 least 0 most 0;when 0 least 0 most 0;x", "when 1 least 0 most 0;".repeat(9)}) {
            Supplier<LikeYears> fed = () -> {
                LikeYears x = rich();
                x.end(0);
                Texts.feed(x, text);
                return x;
            };
            allElseStays("laws() of " + text, fed, x -> x.laws(), -1);
        }
        allElseStays("laws(), but for the laws", () -> {
            LikeYears x = rich();
            x.laws();
            Texts.feed(x, "when gain=1 least 3 most 4;");
            return x;
        }, x -> x.laws(), 1);
    }

    /** Where there is nothing to be taken back, done again, or no room left. */
    private static void nothingToDo() {
        Supplier<LikeYears> fresh = () -> Texts.withBook(BOOK);
        stays("undo() without acts", fresh, x -> flag(x.undo()), 0);
        stays("redo() without acts", fresh, x -> flag(x.redo()), 0);
        stays("back(0) without boxes", fresh, x -> x.back(0), -1);
        stays("of a new object: undo()", LikeYears::new, x -> flag(x.undo()), 0);
        stays("of a new object: redo()", LikeYears::new, x -> flag(x.redo()), 0);
        stays("of a new object: step(0, 0)", LikeYears::new, x -> flag(x.step(0, 0)), 0);
        stays("of a new object: count(0, false)", LikeYears::new, x -> flag(x.count(0, false)), 0);
        stays("of a new object: give(0, 0)", LikeYears::new, x -> flag(x.give(0, 0)), 0);
        Supplier<LikeYears> undone = () -> {
            LikeYears x = rich();
            for (int i = 0; i < 9; i++) {
                x.undo();
            }
            return x;
        };
        stays("undo() with all taken back", undone, x -> flag(x.undo()), 0);
        Supplier<LikeYears> redone = () -> {
            LikeYears x = rich();
            for (int i = 0; i < 9; i++) {
                x.redo();
            }
            return x;
        };
        stays("redo() with all done", redone, x -> flag(x.redo()), 0);
        Supplier<LikeYears> sixteen = () -> {
            LikeYears x = rich();
            for (int i = 0; i < 10; i++) {
                x.come(i, 9 * i, 24 * i, 1 + i % 4);
            }
            x.undo();
            x.redo();
            return x;
        };
        stays("a 17th case", sixteen, x -> x.come(0, 0, 0, 1), -1);
        stays("keep() once more", () -> behind(ArgumentEdgesTest::rich, x -> x.keep(1)), x -> x.keep(1), 6);
        stays("a step that it has", ArgumentEdgesTest::rich, x -> flag(x.step(0, 2)), 1);
        stays("undo() and redo()", ArgumentEdgesTest::rich, x -> flag(x.undo() && x.redo()), 1);
        stays("redo() and undo()", ArgumentEdgesTest::rich, x -> flag(x.redo() && x.undo()), 1);
    }

    private static List<ToLongFunction<LikeYears>> asks(int n) {
        List<ToLongFunction<LikeYears>> all = new ArrayList<>();
        all.add(x -> x.fault(n));
        all.add(x -> x.worse(n, 0));
        all.add(x -> x.worse(0, n));
        all.add(x -> x.clash(n));
        all.add(x -> x.oddest(n));
        all.add(x -> x.beside(n));
        all.add(x -> x.kept(n, 1, 0));
        all.add(x -> x.kept(1, n, 0));
        all.add(x -> x.kept(2, 0, n));
        all.add(x -> x.cost(n, 0));
        all.add(x -> x.cost(0, n));
        all.add(x -> x.block(n));
        all.add(x -> x.again(n));
        all.add(x -> x.grid(n, 2, 0));
        all.add(x -> x.grid(0, n, 1));
        all.add(x -> x.loses(n, 2, 0));
        all.add(x -> x.loses(0, 1, n));
        all.add(x -> x.best());
        all.add(x -> x.runs(n, 3, 0));
        all.add(x -> x.runs(2, n, 0));
        all.add(x -> x.begins(2, n));
        all.add(x -> x.off(n));
        all.add(x -> x.luck(n, 0));
        all.add(x -> x.upto(n, 0));
        all.add(x -> x.drift(n, 0));
        all.add(x -> x.within());
        all.add(x -> x.law(n, 0, 0, 9, 0));
        all.add(x -> x.law(2, n, 0, 9, 1));
        all.add(x -> x.law(2, 1, n, 99, n));
        all.add(x -> x.lawOf(n));
        all.add(x -> x.moved(n));
        all.add(x -> x.mercy(n));
        all.add(x -> x.ends(true, n));
        all.add(x -> x.ends(false, n));
        all.add(x -> x.first(n));
        all.add(x -> x.about(n));
        return all;
    }

    /** No question changes anything: neither what is held, nor what any other question is answered. */
    private static void questionsChangeNothing() {
        List<String> before = Whole.of(ArgumentEdgesTest::rich);
        for (int n : new int[] {MIN, -1, 0, 1, 2, 3, 5, 99, MAX}) {
            compare("all questions with " + n, before, Whole.of(() -> {
                LikeYears x = rich();
                for (ToLongFunction<LikeYears> ask : asks(n)) {
                    ask.applyAsLong(x);
                }
                return x;
            }));
        }
        for (int n : new int[] {0, 1, 2}) {
            int number = asks(n).size();
            for (int i = 0; i < number; i++) {
                LikeYears x = rich();
                long first = asks(n).get(i).applyAsLong(x);
                for (int j = 0; j < number; j++) {
                    asks(n).get(j).applyAsLong(x);
                    T.same("question " + i + " with " + n + " behind question " + j, asks(n).get(i).applyAsLong(x), first);
                }
            }
        }
    }

    public static void main(String[] args) {
        questions();
        refusedCalls();
        nothingToDo();
        questionsChangeNothing();
        T.finish();
    }
}
