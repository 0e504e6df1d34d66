import java.util.ArrayList;
import java.util.List;
import java.util.function.Supplier;

/**
 * All that an object holds, as lines. What can only be seen by changing it (acts, boxes, THE NEW CASE, the tape)
 * is asked of twins, so that no twin is asked more than 512 times and none sees what another one changed.
 */
final class Whole {
    private static final int[] YEARS = {0, 1, 2, 5, 6, 7, 50, 98, 99};

    private final List<String> lines = new ArrayList<>();

    private Whole() {
    }

    static List<String> of(Supplier<LikeYears> twin) {
        List<String> all = withoutTape(twin);
        Whole w = new Whole();
        LikeYears x = twin.get();
        w.say("fault", x.fault(0), x.fault(1));
        w.say("tape", x.about(4));
        w.say("as laws", x.laws(), x.fault(0), x.fault(1), x.about(5));
        w.laws(x);
        x = twin.get();
        w.say("as a book", x.book(), x.fault(0), x.fault(1));
        w.cases("of that book", x);
        all.addAll(w.lines);
        return all;
    }

    /** The same without the tape and the latest fault. */
    static List<String> withoutTape(Supplier<LikeYears> twin) {
        Whole w = new Whole();
        w.facts(twin.get());
        w.answers(twin.get());
        w.fits(twin.get());
        w.laws(twin.get());
        w.newCase(twin.get());
        w.acts(twin.get(), false);
        w.acts(twin.get(), true);
        for (int box = 0; box < 3; box++) {
            w.box(twin.get(), box);
        }
        return w.lines;
    }

    private void say(String what, long... answers) {
        StringBuilder s = new StringBuilder(what);
        for (long a : answers) {
            s.append(' ').append(a);
        }
        lines.add(s.toString());
    }

    private void facts(LikeYears x) {
        for (int what = 0; what < 6; what++) {
            if (what != 4) {
                say("about " + what, x.about(what));
            }
        }
        cases("now", x);
    }

    /** Judges, years and weights come out in the fits; here the months, the order and the steps. */
    private void cases(String when, LikeYears x) {
        int n = x.about(1);
        say(when + ": cases", n, x.about(0), x.about(2));
        for (int a = 0; a < n; a++) {
            say(when + ": given " + a, x.about(10 + a));
            for (int b = 0; b < n && n <= 6; b++) {
                say(when + ": worse " + a + " " + b, x.worse(a, b));
            }
        }
        for (int m = 0; m < x.about(0); m++) {
            for (int step = 0; step <= 11; step += m < 3 ? 1 : 4) {
                say(when + ": step " + m + " " + step, x.law(m, step, 0, 0, 1), x.law(m, step, 0, 0, 0));
            }
        }
    }

    private void answers(LikeYears x) {
        say("clash", x.clash(0), x.clash(1), x.clash(2));
        say("oddest", x.oddest(0), x.oddest(1), x.oddest(2));
        say("again", x.again(0), x.again(1), x.again(2));
        say("within, best", x.within(), x.best());
        say("mercy", x.mercy(0), x.mercy(1));
        for (int judge = 0; judge <= 9; judge++) {
            say("judge " + judge, x.off(judge), x.luck(judge, 0), x.luck(judge, 1));
        }
        for (int year : YEARS) {
            say("year " + year, x.upto(year, 0), x.upto(year, 1), x.drift(year, 0), x.drift(year, 1));
        }
        for (int mark = 0; mark < x.about(0); mark++) {
            for (int most = 1; most <= 12; most += most < 3 ? 1 : 9) {
                say("runs " + mark + " " + most, x.runs(mark, most, 0), x.runs(mark, most, 1), x.begins(mark, most));
            }
        }
    }

    private void fits(LikeYears x) {
        for (int fit = 0; fit < 3; fit++) {
            say("cost " + fit, x.cost(fit, 0), x.cost(fit, 1));
            for (int a = 0; a < x.about(1); a++) {
                say("kept " + fit + " " + a, x.kept(fit, a, 0), x.kept(fit, a, 1));
            }
        }
        for (int a = 0; a < x.about(1); a++) {
            say("case " + a, x.block(a), x.beside(a));
        }
        for (int a = 0; a < 3; a++) {
            for (int b = a + 1; b < x.about(0); b++) {
                say("grid " + a + " " + b, x.grid(a, b, 0), x.grid(a, b, 1), x.loses(a, b, 0), x.loses(a, b, 1));
            }
        }
    }

    private void laws(LikeYears x) {
        say("laws", x.about(5), x.moved(0), x.moved(1), x.moved(2));
        for (int a = 0; a < x.about(1); a++) {
            say("law of " + a, x.lawOf(a));
        }
    }

    private void newCase(LikeYears x) {
        say("ends", x.ends(false, 0), x.ends(false, 1), x.ends(true, 0), x.ends(true, 1));
        say("first", x.first(0), x.first(10), x.first(30), x.first(120), x.first(240));
        say("come", x.come(0, 0, 1, 1));
        cases("with the new case", x);
    }

    private void acts(LikeYears x, boolean again) {
        String which = again ? "redo " : "undo ";
        int number = 0;
        while (number < 61 && (again ? x.redo() : x.undo())) {
            number++;
            say(which + number, x.about(1), x.about(10), x.about(11), x.about(12));
        }
        say(which + "in all", number, x.about(3));
        cases("behind " + which, x);
    }

    private void box(LikeYears x, int box) {
        say("back " + box, x.back(box), x.about(3));
        cases("from box " + box, x);
        say("from box " + box + ": cost", x.cost(0, 0), x.cost(0, 1), x.cost(1, 0), x.upto(5, 0), x.off(1), x.off(2));
        say("acts from box " + box, x.undo() ? 1 : 0, x.redo() ? 1 : 0);
        for (int mark = 0; mark < x.about(0); mark++) {
            say("count from box " + box, x.count(mark, true) ? 1 : 0);
        }
    }
}
