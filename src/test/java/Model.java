import java.util.ArrayDeque;
import java.util.ArrayList;
import java.util.Arrays;
import java.util.Deque;
import java.util.HashMap;
import java.util.List;
import java.util.Map;

/**
 * The document once more, by trying everything: each answer is looked for among all sets, all
 * partings, all choices. It shares no code and no way of reckoning with LikeYears.
 */
public final class Model {
    static final long NO = -1000000000000L;

    static final class Fault extends RuntimeException {
        final int kind;
        final int place;

        Fault(int kind, int place) {
            super(null, null, false, false);
            this.kind = kind;
            this.place = place;
        }
    }

    static final class Case {
        int judge;
        int year;
        int given;
        int weight;
        int[] steps = new int[6];

        Case copy() {
            Case c = new Case();
            c.judge = judge;
            c.year = year;
            c.given = given;
            c.weight = weight;
            c.steps = steps.clone();
            return c;
        }
    }

    static final class State {
        List<Case> cases = new ArrayList<>();
        boolean[] counts = new boolean[6];

        State copy() {
            State s = new State();
            for (Case c : cases) {
                s.cases.add(c.copy());
            }
            s.counts = counts.clone();
            return s;
        }
    }

    private final StringBuilder tape = new StringBuilder();
    private List<String> markNames = new ArrayList<>();
    private List<Integer> tops = new ArrayList<>();
    private List<int[]> told = new ArrayList<>();
    private State now = new State();
    private int[] fresh = new int[6];
    private final State[] boxes = new State[3];
    // Acts are whole pictures of what was: another way than that of the class.
    private final Deque<State> past = new ArrayDeque<>();
    private final Deque<State> future = new ArrayDeque<>();
    private List<ModelText.Law> rules = new ArrayList<>();
    private int faultKind;
    private int faultPlace = -1;

    public int feed(int a, int b, int c, int d, int e) {
        if (tape.length() + 20 > 1300) {
            return -1;
        }
        for (int n : new int[] {a, b, c, d, e}) {
            for (int s = 24; s >= 0; s -= 8) {
                tape.append((char) (n >>> s & 255));
            }
        }
        return tape.length();
    }

    public int end(int n) {
        if (n < 0 || n > tape.length()) {
            return -1;
        }
        tape.setLength(n);
        return n;
    }

    public int book() {
        String text = tape.toString();
        tape.setLength(0);
        faultKind = 0;
        faultPlace = -1;
        try {
            ModelText.BookText t = ModelText.readBook(text);
            int against = firstAgainst(t.state, t.markNames.size(), t.told);
            if (against >= 0) {
                throw new Fault(6, t.told.get(against)[2]);
            }
            markNames = t.markNames;
            tops = t.tops;
            told = t.told;
            now = t.state;
            fresh = new int[6];
            Arrays.fill(boxes, null);
            past.clear();
            future.clear();
            rules = new ArrayList<>();
            return t.lines;
        } catch (Fault f) {
            faultKind = f.kind;
            faultPlace = f.place;
            return -1;
        }
    }

    public int laws() {
        if (tape.length() > 500) {
            return -2;
        }
        String text = tape.toString();
        tape.setLength(0);
        faultKind = 0;
        faultPlace = -1;
        try {
            rules = ModelText.readLaws(text, markNames);
            return rules.size();
        } catch (Fault f) {
            faultKind = f.kind;
            faultPlace = f.place;
            return -1;
        }
    }

    public int fault(int what) {
        return what == 0 ? faultKind : what == 1 ? faultPlace : -1;
    }

    // ---- over ----

    private static boolean byMarks(int[] a, int[] b, boolean[] counts, int marks) {
        for (int m = 0; m < marks; m++) {
            if (counts[m] && a[m] < b[m]) {
                return false;
            }
        }
        return true;
    }

    /** By the marks and the first told lines, closed by going through all others again and again. */
    private static boolean[][] over(List<Case> cases, boolean[] counts, int marks, List<int[]> told, int lines) {
        int n = cases.size();
        boolean[][] o = new boolean[n][n];
        for (int i = 0; i < n; i++) {
            for (int j = 0; j < n; j++) {
                o[i][j] = byMarks(cases.get(i).steps, cases.get(j).steps, counts, marks);
            }
        }
        for (int t = 0; t < lines; t++) {
            o[told.get(t)[0]][told.get(t)[1]] = true;
        }
        for (int k = 0; k < n; k++) {
            for (int i = 0; i < n; i++) {
                for (int j = 0; j < n; j++) {
                    o[i][j] |= o[i][k] && o[k][j];
                }
            }
        }
        return o;
    }

    private static int firstAgainst(State s, int marks, List<int[]> told) {
        for (int t = 0; t < told.size(); t++) {
            boolean[][] o = over(s.cases, s.counts, marks, told, t);
            if (o[told.get(t)[1]][told.get(t)[0]]) {
                return t;
            }
        }
        return -1;
    }

    private boolean[][] over() {
        return over(now.cases, now.counts, markNames.size(), told, told.size());
    }

    private int n() {
        return now.cases.size();
    }

    private boolean isCase(int a) {
        return a >= 0 && a < n();
    }

    private boolean isMark(int m) {
        return m >= 0 && m < markNames.size();
    }

    private int given(int c) {
        return now.cases.get(c).given;
    }

    public int worse(int a, int b) {
        if (!isCase(a) || !isCase(b)) {
            return -1;
        }
        boolean[][] o = over();
        return !o[a][b] ? 0 : o[b][a] ? 2 : 1;
    }

    private int[][] gaps(boolean[][] o) {
        int[][] g = new int[n()][n()];
        for (int i = 0; i < n(); i++) {
            for (int j = 0; j < n(); j++) {
                if (o[i][j] && given(i) < given(j)) {
                    g[i][j] = given(j) - given(i);
                    g[j][i] = g[i][j];
                }
            }
        }
        return g;
    }

    private static int[] sumUp(int[][] g) {
        int[] r = new int[3];
        for (int i = 0; i < g.length; i++) {
            for (int j = i + 1; j < g.length; j++) {
                if (g[i][j] > 0) {
                    r[0]++;
                    r[1] += g[i][j];
                    r[2] = Math.max(r[2], g[i][j]);
                }
            }
        }
        return r;
    }

    public int clash(int what) {
        return what < 0 || what > 2 ? -1 : sumUp(gaps(over()))[what];
    }

    public int oddest(int what) {
        int[][] g = gaps(over());
        List<int[]> rows = new ArrayList<>();
        for (int i = 0; i < n(); i++) {
            int number = 0;
            int sum = 0;
            for (int v : g[i]) {
                number += v > 0 ? 1 : 0;
                sum += v;
            }
            if (number > 0) {
                rows.add(new int[] {i, number, sum});
            }
        }
        rows.sort((p, q) -> p[1] != q[1] ? q[1] - p[1] : p[2] != q[2] ? q[2] - p[2] : p[0] - q[0]);
        return rows.isEmpty() || what < 0 || what > 2 ? -1 : rows.get(0)[what];
    }

    public int beside(int a) {
        if (!isCase(a)) {
            return -1;
        }
        int[] row = gaps(over())[a];
        int most = Arrays.stream(row).max().getAsInt();
        if (most == 0) {
            return -1;
        }
        int at = 0;
        while (row[at] != most) {
            at++;
        }
        return at;
    }

    // ---- fits ----

    /** All upper sets of a set. */
    private static List<Integer> upperSets(boolean[][] o, int set) {
        int n = o.length;
        int[] above = new int[n];
        for (int i = 0; i < n; i++) {
            for (int j = 0; j < n; j++) {
                if (o[j][i]) {
                    above[i] |= 1 << j;
                }
            }
        }
        List<Integer> all = new ArrayList<>();
        for (int s = set;; s = s - 1 & set) {
            boolean good = true;
            for (int i = 0; i < n && good; i++) {
                if ((s >> i & 1) != 0 && (above[i] & set & ~s) != 0) {
                    good = false;
                }
            }
            if (good) {
                all.add(s);
            }
            if (s == 0) {
                return all;
            }
        }
    }

    private static Ratio mean(List<Case> cases, int set) {
        long w = 0;
        long s = 0;
        for (int i = 0; i < cases.size(); i++) {
            if ((set >> i & 1) != 0) {
                w += cases.get(i).weight;
                s += cases.get(i).weight * cases.get(i).given;
            }
        }
        return Ratio.of(s, w);
    }

    /** Of each case of a set the greatest of the least means: over all upper sets, then all lower ones. */
    private static Ratio[] squares(List<Case> cases, boolean[][] o, int set) {
        int n = cases.size();
        Ratio[] kept = new Ratio[n];
        List<Integer> uppers = upperSets(o, set);
        Map<Integer, Ratio> means = new HashMap<>();
        for (int u : uppers) {
            Ratio[] least = new Ratio[n];
            for (int v : uppers) {
                int both = u & ~v;
                if (both == 0) {
                    continue;
                }
                Ratio m = means.computeIfAbsent(both, k -> mean(cases, k));
                for (int i = 0; i < n; i++) {
                    if ((both >> i & 1) != 0 && (least[i] == null || m.compareTo(least[i]) < 0)) {
                        least[i] = m;
                    }
                }
            }
            for (int i = 0; i < n; i++) {
                if (least[i] != null && (kept[i] == null || least[i].compareTo(kept[i]) > 0)) {
                    kept[i] = least[i];
                }
            }
        }
        return kept;
    }

    private static Ratio squaresCost(List<Case> cases, boolean[][] o, int set) {
        Ratio[] kept = squares(cases, o, set);
        Ratio cost = Ratio.ZERO;
        for (int i = 0; i < cases.size(); i++) {
            if ((set >> i & 1) != 0) {
                Ratio d = Ratio.of(cases.get(i).given, 1).minus(kept[i]);
                cost = cost.plus(d.times(d).times(Ratio.of(cases.get(i).weight, 1)));
            }
        }
        return cost;
    }

    private int all() {
        return (1 << n()) - 1;
    }

    private int bestGaps;
    private int[] bestMonths;

    /** Tries every way to keep the order with months that were given. */
    private int[] gapsKept() {
        boolean[][] o = over();
        int[] values = now.cases.stream().mapToInt(c -> c.given).distinct().sorted().toArray();
        bestGaps = Integer.MAX_VALUE;
        bestMonths = new int[n()];
        tryGaps(o, values, new int[n()], 0, 0);
        return bestMonths;
    }

    private void tryGaps(boolean[][] o, int[] values, int[] x, int at, int cost) {
        if (cost > bestGaps) {
            return;
        }
        if (at == x.length) {
            if (cost < bestGaps) {
                bestGaps = cost;
                bestMonths = x.clone();
            }
            for (int i = 0; i < x.length; i++) {
                bestMonths[i] = Math.min(bestMonths[i], x[i]);
            }
            return;
        }
        for (int v : values) {
            boolean good = true;
            for (int i = 0; i < at && good; i++) {
                good = !(o[i][at] && x[i] < v) && !(o[at][i] && v < x[i]);
            }
            if (good) {
                x[at] = v;
                tryGaps(o, values, x, at + 1, cost + now.cases.get(at).weight * Math.abs(v - given(at)));
            }
        }
    }

    private Ratio greatestKept(boolean[][] o, int a) {
        int most = 0;
        int least = 240;
        for (int i = 0; i < n(); i++) {
            if (o[a][i]) {
                most = Math.max(most, given(i));
            }
            if (o[i][a]) {
                least = Math.min(least, given(i));
            }
        }
        return Ratio.of(most + least, 2);
    }

    public long kept(int fit, int a, int part) {
        if (fit < 0 || fit > 2 || !isCase(a) || part < 0 || part > 1) {
            return -1;
        }
        boolean[][] o = over();
        if (fit == 0) {
            return squares(now.cases, o, all())[a].part(part);
        }
        return fit == 1 ? Ratio.of(gapsKept()[a], 1).part(part) : greatestKept(o, a).part(part);
    }

    public long cost(int fit, int part) {
        if (fit < 0 || fit > 2 || part < 0 || part > 1) {
            return -1;
        }
        boolean[][] o = over();
        if (fit == 0) {
            return squaresCost(now.cases, o, all()).part(part);
        }
        if (fit == 1) {
            gapsKept();
            return part == 0 ? bestGaps : 1;
        }
        Ratio most = Ratio.ZERO;
        for (int i = 0; i < n(); i++) {
            Ratio d = greatestKept(o, i).minus(Ratio.of(given(i), 1));
            Ratio e = d.compareTo(Ratio.ZERO) < 0 ? Ratio.ZERO.minus(d) : d;
            most = e.compareTo(most) > 0 ? e : most;
        }
        return most.part(part);
    }

    /** By the letter: parts a set as long as some of it are worth more than nothing. */
    public int block(int a) {
        if (!isCase(a)) {
            return -1;
        }
        boolean[][] o = over();
        int set = all();
        while (true) {
            Ratio m = mean(now.cases, set);
            Ratio most = Ratio.ZERO;
            int choice = 0;
            for (int u : upperSets(o, set)) {
                Ratio worth = Ratio.ZERO;
                for (int i = 0; i < n(); i++) {
                    if ((u >> i & 1) != 0) {
                        worth = worth.plus(Ratio.of(now.cases.get(i).weight, 1)
                            .times(Ratio.of(given(i), 1).minus(m)));
                    }
                }
                int by = worth.compareTo(most);
                if (by > 0 || by == 0 && choice != 0 && Integer.bitCount(u) < Integer.bitCount(choice)
                    && worth.compareTo(Ratio.ZERO) > 0) {
                    most = worth;
                    choice = u;
                }
            }
            if (choice == 0) {
                return set;
            }
            set = (choice >> a & 1) != 0 ? choice : set & ~choice;
        }
    }

    public int again(int what) {
        int[][] g = gaps(over());
        int fewest = 99;
        int which = 0;
        int rivals = 0;
        for (int s = 0; s <= all(); s++) {
            boolean good = true;
            for (int i = 0; i < n(); i++) {
                for (int j = 0; j < n(); j++) {
                    good &= g[i][j] == 0 || (s >> i & 1) != 0 || (s >> j & 1) != 0;
                }
            }
            if (good && Integer.bitCount(s) < fewest) {
                fewest = Integer.bitCount(s);
                which = s;
                rivals = 0;
            }
            rivals += good && Integer.bitCount(s) == fewest ? 1 : 0;
        }
        return what == 0 ? fewest : what == 1 ? which : what == 2 ? rivals : -1;
    }

    private Ratio gridRatio(int a, int b) {
        boolean[] two = new boolean[6];
        two[a] = true;
        two[b] = true;
        return squaresCost(now.cases, over(now.cases, two, markNames.size(), told, 0), all());
    }

    private boolean isGrid(int a, int b, int part) {
        return isMark(a) && isMark(b) && a < b && part >= 0 && part <= 1;
    }

    public long grid(int a, int b, int part) {
        return isGrid(a, b, part) ? gridRatio(a, b).part(part) : -1;
    }

    public long loses(int a, int b, int part) {
        if (!isGrid(a, b, part)) {
            return NO;
        }
        return gridRatio(a, b).minus(squaresCost(now.cases, over(), all())).part(part);
    }

    public int best() {
        int best = -1;
        Ratio least = null;
        for (int a = 0; a < markNames.size(); a++) {
            for (int b = a + 1; b < markNames.size(); b++) {
                Ratio r = gridRatio(a, b);
                if (least == null || r.compareTo(least) < 0) {
                    least = r;
                    best = 10 * a + b;
                }
            }
        }
        return best;
    }

    private Ratio runsCost;
    private int runsBegin;

    /** Every set of steps at which runs may begin; the months of runs keep their order by squares. */
    private boolean part(int mark, int most) {
        if (!isMark(mark) || most < 1 || most > 12) {
            return false;
        }
        runsCost = null;
        int fewest = 0;
        int top = tops.get(mark);
        for (int s = 0; s < 1 << top + 1; s += 2) {
            int number = Integer.bitCount(s) + 1;
            if (number > most) {
                continue;
            }
            Ratio cost = costOfRuns(mark, s);
            int by = runsCost == null ? -1 : cost.compareTo(runsCost);
            if (by < 0 || by == 0 && number < fewest) {
                runsCost = cost;
                runsBegin = s;
                fewest = number;
            }
        }
        return true;
    }

    private Ratio costOfRuns(int mark, int begins) {
        List<Ratio> w = new ArrayList<>();
        List<Ratio> s = new ArrayList<>();
        Ratio q = Ratio.ZERO;
        for (int lo = 0; lo <= tops.get(mark);) {
            int hi = lo + 1;
            while (hi <= tops.get(mark) && (begins >> hi & 1) == 0) {
                hi++;
            }
            long weight = 0;
            long sum = 0;
            for (Case c : now.cases) {
                if (c.steps[mark] >= lo && c.steps[mark] < hi) {
                    weight += c.weight;
                    sum += c.weight * c.given;
                    q = q.plus(Ratio.of(c.weight * c.given * c.given, 1));
                }
            }
            if (weight > 0) {
                w.add(Ratio.of(weight, 1));
                s.add(Ratio.of(sum, 1));
            }
            lo = hi;
        }
        return q.minus(chainGain(w, s));
    }

    /** Greatest of least means on a chain, then what its squares take off. */
    private static Ratio chainGain(List<Ratio> w, List<Ratio> s) {
        Ratio gain = Ratio.ZERO;
        int n = w.size();
        for (int i = 0; i < n; i++) {
            Ratio kept = null;
            for (int from = 0; from <= i; from++) {
                Ratio least = null;
                for (int to = i; to < n; to++) {
                    Ratio ws = Ratio.ZERO;
                    Ratio ss = Ratio.ZERO;
                    for (int k = from; k <= to; k++) {
                        ws = ws.plus(w.get(k));
                        ss = ss.plus(s.get(k));
                    }
                    Ratio m = ss.over(ws);
                    least = least == null || m.compareTo(least) < 0 ? m : least;
                }
                kept = kept == null || least.compareTo(kept) > 0 ? least : kept;
            }
            Ratio two = Ratio.of(2, 1);
            gain = gain.plus(two.times(s.get(i)).times(kept)).minus(w.get(i).times(kept).times(kept));
        }
        return gain;
    }

    public long runs(int mark, int most, int part) {
        return part < 0 || part > 1 || !part(mark, most) ? -1 : runsCost.part(part);
    }

    public int begins(int mark, int most) {
        return part(mark, most) ? runsBegin : -1;
    }

    // ---- judges and years ----

    private int[] shares() {
        int[] kept = gapsKept();
        int[] s = new int[n()];
        for (int i = 0; i < n(); i++) {
            s[i] = now.cases.get(i).weight * Math.abs(given(i) - kept[i]);
        }
        return s;
    }

    public int off(int judge) {
        if (judge < 0 || judge > 9) {
            return -1;
        }
        int sum = 0;
        int[] s = shares();
        for (int i = 0; i < n(); i++) {
            sum += now.cases.get(i).judge == judge ? s[i] : 0;
        }
        return sum;
    }

    public long luck(int judge, int part) {
        int own = (int) now.cases.stream().filter(c -> c.judge == judge).count();
        if (judge < 0 || judge > 9 || part < 0 || part > 1 || own == 0) {
            return -1;
        }
        int need = off(judge);
        int[] s = shares();
        int good = 0;
        int choices = 0;
        for (int set = 0; set <= all(); set++) {
            if (Integer.bitCount(set) == own) {
                choices++;
                int sum = 0;
                for (int i = 0; i < n(); i++) {
                    sum += (set >> i & 1) * s[i];
                }
                good += sum >= need ? 1 : 0;
            }
        }
        return Ratio.of(good, choices).part(part);
    }

    public long upto(int year, int part) {
        if (year < 0 || year > 99 || part < 0 || part > 1) {
            return -1;
        }
        int set = 0;
        for (int i = 0; i < n(); i++) {
            set |= now.cases.get(i).year <= year ? 1 << i : 0;
        }
        return squaresCost(now.cases, over(), set).part(part);
    }

    public long drift(int year, int part) {
        if (year < 0 || year > 99 || part < 0 || part > 1) {
            return NO;
        }
        Ratio[] kept = squares(now.cases, over(), all());
        Ratio sum = Ratio.ZERO;
        for (int i = 0; i < n(); i++) {
            Case c = now.cases.get(i);
            if (c.year == year) {
                sum = sum.plus(Ratio.of(c.weight, 1).times(Ratio.of(c.given, 1).minus(kept[i])));
            }
        }
        return sum.part(part);
    }

    public int within() {
        int[][] g = gaps(over());
        int number = 0;
        for (int i = 0; i < n(); i++) {
            for (int j = i + 1; j < n(); j++) {
                number += g[i][j] > 0 && now.cases.get(i).year == now.cases.get(j).year ? 1 : 0;
            }
        }
        return number;
    }

    // ---- laws ----

    public int law(int mark, int step, int least, int most, int what) {
        boolean can = isMark(mark) && step >= 0 && step <= tops.get(mark) && least >= 0 && least <= 240
            && most >= 0 && most <= 240 && most >= least && what >= 0 && what <= 1;
        if (!can) {
            return -1;
        }
        int number = 0;
        int sum = 0;
        for (Case c : now.cases) {
            if (c.steps[mark] >= step && (c.given < least || c.given > most)) {
                number++;
                sum += c.given < least ? least - c.given : c.given - most;
            }
        }
        return what == 0 ? number : sum;
    }

    public int lawOf(int a) {
        if (!isCase(a)) {
            return -1;
        }
        for (int i = 0; i < rules.size(); i++) {
            if (rules.get(i).e.of(now.cases.get(a)) != 0) {
                return i;
            }
        }
        return -1;
    }

    public int moved(int what) {
        int number = 0;
        int sum = 0;
        int most = 0;
        int which = -1;
        for (int i = 0; i < n(); i++) {
            int line = lawOf(i);
            if (line < 0) {
                continue;
            }
            int by = Math.max(rules.get(line).least - given(i), given(i) - rules.get(line).most);
            if (by > 0) {
                number++;
                sum += by;
                if (by > most) {
                    most = by;
                    which = i;
                }
            }
        }
        return what == 0 ? number : what == 1 ? sum : what == 2 ? which : -1;
    }

    public int mercy(int what) {
        int mark = -1;
        int fewest = -1;
        for (int m = markNames.size() - 1; m >= 0; m--) {
            if (!now.counts[m]) {
                boolean[] more = now.counts.clone();
                more[m] = true;
                int pairs = sumUp(gaps(over(now.cases, more, markNames.size(), told, told.size())))[0];
                if (mark < 0 || pairs <= fewest) {
                    mark = m;
                    fewest = pairs;
                }
            }
        }
        return what == 0 ? mark : what == 1 ? fewest : -1;
    }

    // ---- the new case ----

    public boolean step(int mark, int step) {
        if (!isMark(mark) || step < 0 || step > tops.get(mark)) {
            return false;
        }
        fresh[mark] = step;
        return true;
    }

    /** With the new case among the others, as the last one. */
    private boolean[][] overWithNew() {
        State s = now.copy();
        Case c = new Case();
        c.steps = fresh.clone();
        s.cases.add(c);
        return over(s.cases, s.counts, markNames.size(), told, told.size());
    }

    public long ends(boolean high, int part) {
        if (part < 0 || part > 1) {
            return -1;
        }
        boolean[][] o = overWithNew();
        Ratio[] kept = squares(now.cases, over(), all());
        Ratio end = null;
        for (int i = 0; i < n(); i++) {
            if (high && o[i][n()] && (end == null || kept[i].compareTo(end) < 0)) {
                end = kept[i];
            }
            if (!high && o[n()][i] && (end == null || kept[i].compareTo(end) > 0)) {
                end = kept[i];
            }
        }
        return end == null ? -1 : end.part(part);
    }

    public int first(int given) {
        if (given < 0 || given > 240) {
            return -1;
        }
        boolean[][] o = overWithNew();
        for (int i = 0; i < n(); i++) {
            if (o[i][n()] && given(i) < given || o[n()][i] && given < given(i)) {
                return i;
            }
        }
        return -1;
    }

    private void act() {
        past.addLast(now.copy());
        if (past.size() > 60) {
            past.removeFirst();
        }
        future.clear();
    }

    public int come(int judge, int year, int given, int weight) {
        if (judge < 0 || judge > 9 || year < 0 || year > 99 || given < 0 || given > 240 || weight < 1
            || weight > 4 || n() >= 16) {
            return -1;
        }
        act();
        Case c = new Case();
        c.judge = judge;
        c.year = year;
        c.given = given;
        c.weight = weight;
        c.steps = fresh.clone();
        now.cases.add(c);
        return n() - 1;
    }

    public boolean count(int mark, boolean does) {
        if (!isMark(mark) || now.counts[mark] == does) {
            return false;
        }
        State s = now.copy();
        s.counts[mark] = does;
        if (firstAgainst(s, markNames.size(), told) >= 0) {
            return false;
        }
        act();
        now = s;
        return true;
    }

    public boolean give(int a, int given) {
        if (!isCase(a) || given < 0 || given > 240 || given(a) == given) {
            return false;
        }
        act();
        now.cases.get(a).given = given;
        return true;
    }

    public boolean undo() {
        if (past.isEmpty()) {
            return false;
        }
        future.addLast(now);
        now = past.removeLast();
        return true;
    }

    public boolean redo() {
        if (future.isEmpty()) {
            return false;
        }
        past.addLast(now);
        now = future.removeLast();
        return true;
    }

    public int keep(int box) {
        if (box < 0 || box > 2) {
            return -1;
        }
        boxes[box] = now.copy();
        return n();
    }

    public int back(int box) {
        if (box < 0 || box > 2 || boxes[box] == null) {
            return -1;
        }
        now = boxes[box].copy();
        past.clear();
        future.clear();
        return n();
    }

    public int about(int what) {
        int[] facts = {markNames.size(), n(), told.size(), past.size(), tape.length(), rules.size()};
        if (what >= 0 && what < 6) {
            return facts[what];
        }
        return what >= 10 && what < 10 + n() ? given(what - 10) : -1;
    }

}
