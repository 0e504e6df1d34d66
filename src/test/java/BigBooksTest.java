import java.util.Random;

/** Books of up to 16 cases, too many for the model: what is kept is shown to be nearest by all 65,536 sets. */
public final class BigBooksTest {
    private static int wrong;
    private static String run = "";

    /** The steps are those of a book of its own, as no object is asked more than 512 times. */
    private final String text;
    private LikeYears x;
    private final int n;
    private final int[] judge = new int[16];
    private final int[] year = new int[16];
    private final int[] given = new int[16];
    private final int[] weight = new int[16];
    private final int[][] steps = new int[16][3];
    private final int[] above = new int[16];

    private BigBooksTest(Random r, int cases, boolean told) {
        n = cases;
        int top = told ? 11 : 1 + r.nextInt(11);
        int span = r.nextInt(4) == 0 ? 5 : 241;
        boolean upward = !told && r.nextBoolean();
        StringBuilder lines = new StringBuilder("mark x to " + top + ";mark y to 11;mark z to " + top + ";");
        lines.append(!told && r.nextBoolean() ? "never z;" : "");
        for (int c = 0; c < n; c++) {
            // Told books: steps that sum up to the same, so that nothing but what is told makes one over another.
            steps[c] = told ? new int[] {c % 4, c / 4, 11 - c % 4 - c / 4}
                : new int[] {r.nextInt(top + 1), r.nextInt(12), r.nextInt(top + 1)};
            judge[c] = r.nextInt(3);
            year[c] = r.nextInt(5);
            given[c] = upward ? Math.min(240, steps[c][1] * 18 + r.nextInt(60)) : r.nextInt(span);
            weight[c] = 1 + r.nextInt(4);
            lines.append("case ").append((char) ('a' + c)).append(" judge " + judge[c] + " in " + year[c] + " given "
                + given[c] + " weight " + weight[c] + " x " + steps[c][0] + " y " + steps[c][1] + " z " + steps[c][2] + ";");
        }
        // Of two halves each of one may be over each of the other, or any over one that is told ahead of it.
        boolean halves = r.nextBoolean();
        for (int t = 0; told && t < 20; t++) {
            int over = halves ? r.nextInt(n / 2) : 1 + r.nextInt(n - 1);
            int under = halves ? n / 2 + r.nextInt(n / 2) : r.nextInt(over);
            lines.append("told ").append((char) ('a' + over)).append(" over ").append((char) ('a' + under)).append(";");
        }
        text = lines.toString();
        x = Texts.withBook(text);
        same("a book of " + text.length() + " bytes", x.fault(0), 0);
        for (int i = 0; i < n; i++) {
            for (int j = 0; j < n; j++) {
                above[i] |= x.worse(j, i) > 0 ? 1 << j : 0;
            }
        }
    }

    private static void same(String what, long got, long want) {
        if (got != want) {
            wrong++;
            System.out.println(run + ": " + what + " is " + got + ", due is " + want);
        }
    }

    /** Of all upper sets of a set the most worth, of such the fewest. */
    private int mostWorth(int set, long[] worth) {
        int[] over = new int[1 << n];
        long[] sum = new long[1 << n];
        int choice = 0;
        for (int s = 1; s < 1 << n; s++) {
            int c = Integer.numberOfTrailingZeros(s);
            over[s] = over[s & s - 1] | above[c];
            sum[s] = sum[s & s - 1] + worth[c];
            boolean upper = (s & ~set) == 0 && (over[s] & set & ~s) == 0;
            if (upper && (sum[s] > sum[choice] || sum[s] == sum[choice] && Integer.bitCount(s) < Integer.bitCount(choice))) {
                choice = s;
            }
        }
        return choice;
    }

    private void squares() {
        Ratio cost = Ratio.ZERO;
        int[] block = new int[n];
        Ratio[] kept = new Ratio[n];
        for (int c = 0; c < n; c++) {
            block[c] = x.block(c);
            kept[c] = mean(block[c]);
            same("kept up", x.kept(0, c, 0), kept[c].part(0));
            same("kept low", x.kept(0, c, 1), kept[c].part(1));
            if (Integer.numberOfTrailingZeros(block[c]) == c) {
                same("some of a block that are worth more", mostWorth(block[c], worths(block[c])), 0);
                cost = cost.plus(costOfBlock(block[c]));
            }
        }
        same("cost up", x.cost(0, 0), cost.part(0));
        same("cost low", x.cost(0, 1), cost.part(1));
        for (int i = 0; i < n; i++) {
            for (int j = 0; j < n; j++) {
                int by = kept[i].compareTo(kept[j]);
                same("order is kept", (above[j] >> i & 1) != 0 && by < 0 ? 1 : 0, 0);
                same("one block, one number", (block[i] == block[j]) == (by == 0) ? 1 : 0, 1);
                same("all of a block have it", (block[i] >> j & 1) != 0 == (block[i] == block[j]) ? 1 : 0, 1);
            }
        }
    }

    private Ratio mean(int set) {
        long w = 0;
        long sum = 0;
        for (int d = 0; d < n; d++) {
            w += (set >> d & 1) * weight[d];
            sum += (set >> d & 1) * weight[d] * given[d];
        }
        return Ratio.of(sum, w);
    }

    /** Of each of a set what it is worth there, times the lower part of the mean. */
    private long[] worths(int set) {
        Ratio mean = mean(set);
        long[] worth = new long[n];
        for (int d = 0; d < n; d++) {
            worth[d] = weight[d] * (given[d] * mean.part(1) - mean.part(0));
        }
        return worth;
    }

    private Ratio costOfBlock(int set) {
        Ratio cost = Ratio.ZERO;
        for (int d = 0; d < n; d++) {
            if ((set >> d & 1) != 0) {
                Ratio by = Ratio.of(given[d], 1).minus(mean(set));
                cost = cost.plus(by.times(by).times(Ratio.of(weight[d], 1)));
            }
        }
        return cost;
    }

    /** By the letter: parts a set as long as some of it are worth more than nothing. */
    private Ratio costOf(int set) {
        int upper = set == 0 ? 0 : mostWorth(set, worths(set));
        if (upper == 0) {
            return costOfBlock(set);
        }
        return costOf(upper).plus(costOf(set & ~upper));
    }

    private void gaps() {
        int cost = 0;
        int[] months = new int[n];
        for (int level = 0; level <= 240; level++) {
            boolean is = false;
            long[] worth = new long[n];
            for (int c = 0; c < n; c++) {
                is |= given[c] == level;
                worth[c] = given[c] > level ? weight[c] : -weight[c];
            }
            int higher = is ? mostWorth((1 << n) - 1, worth) : -1;
            for (int c = 0; is && c < n; c++) {
                if ((higher >> c & 1) == 0 && months[c] == 0) {
                    months[c] = level + 1;
                }
            }
        }
        int[] share = new int[n];
        for (int c = 0; c < n; c++) {
            same("kept by gaps", x.kept(1, c, 0), months[c] - 1);
            share[c] = weight[c] * Math.abs(given[c] - months[c] + 1);
            cost += share[c];
        }
        same("cost by gaps", x.cost(1, 0), cost);
        for (int j = 0; j < 3; j++) {
            luck(j, share);
        }
    }

    private void luck(int j, int[] share) {
        int own = 0;
        int off = 0;
        for (int c = 0; c < n; c++) {
            own += judge[c] == j ? 1 : 0;
            off += judge[c] == j ? share[c] : 0;
        }
        int good = 0;
        int all = 0;
        for (int s = 0; s < 1 << n; s++) {
            if (Integer.bitCount(s) == own) {
                int sum = 0;
                for (int c = 0; c < n; c++) {
                    sum += (s >> c & 1) * share[c];
                }
                all++;
                good += sum >= off ? 1 : 0;
            }
        }
        same("off", x.off(j), off);
        same("luck up", x.luck(j, 0), own == 0 ? -1 : Ratio.of(good, all).part(0));
        same("luck low", x.luck(j, 1), own == 0 ? -1 : Ratio.of(good, all).part(1));
    }

    private void again() {
        int[] foes = new int[n];
        for (int i = 0; i < n; i++) {
            for (int j = 0; j < n; j++) {
                boolean foe = (above[j] >> i & 1) != 0 && given[i] < given[j];
                foes[i] |= foe ? 1 << j : 0;
                foes[j] |= foe ? 1 << i : 0;
            }
        }
        int fewest = 99;
        int which = 0;
        int rivals = 0;
        for (int s = 0; s < 1 << n; s++) {
            boolean good = Integer.bitCount(s) <= fewest;
            for (int c = 0; c < n && good; c++) {
                good = (s >> c & 1) != 0 || (foes[c] & ~s) == 0;
            }
            if (good && Integer.bitCount(s) < fewest) {
                fewest = Integer.bitCount(s);
                which = s;
                rivals = 0;
            }
            rivals += good ? 1 : 0;
        }
        same("again 0", x.again(0), fewest);
        same("again 1", x.again(1), which);
        same("again 2", x.again(2), rivals);
    }

    /** Mark b has 12 steps: all 2,048 sets at which runs may begin. */
    private void runs() {
        Ratio[] cost = new Ratio[1 << 11];
        for (int s = 0; s < cost.length; s++) {
            cost[s] = costOfRuns(s << 1);
        }
        for (int most = 1; most <= 12; most++) {
            int best = 0;
            for (int s = 1; s < cost.length; s++) {
                int by = cost[s].compareTo(cost[best]);
                boolean better = by < 0 || by == 0 && Integer.bitCount(s) < Integer.bitCount(best);
                best = Integer.bitCount(s) < most && better ? s : best;
            }
            same("begins " + most, x.begins(1, most), best << 1);
            same("runs up " + most, x.runs(1, most, 0), cost[best].part(0));
            same("runs low " + most, x.runs(1, most, 1), cost[best].part(1));
        }
    }

    private Ratio costOfRuns(int begins) {
        long[] w = new long[13];
        long[] s = new long[13];
        int size = 0;
        long squares = 0;
        for (int step = 0; step <= 11; step++) {
            if (step == 0 || (begins >> step & 1) != 0) {
                size++;
                w[size] = 0;
                s[size] = 0;
            }
            for (int c = 0; c < n; c++) {
                if (steps[c][1] == step) {
                    w[size] += weight[c];
                    s[size] += weight[c] * given[c];
                    squares += weight[c] * given[c] * given[c];
                }
            }
            boolean ends = step == 11 || (begins >> step + 1 & 1) != 0;
            while (ends && size > 1 && s[size - 1] * w[size] >= s[size] * w[size - 1]) {
                size--;
                w[size] += w[size + 1];
                s[size] += s[size + 1];
            }
        }
        Ratio cost = Ratio.of(squares, 1);
        for (int i = 1; i <= size; i++) {
            cost = w[i] == 0 ? cost : cost.minus(Ratio.of(s[i] * s[i], w[i]));
        }
        return cost;
    }

    private void years() {
        Ratio[] kept = new Ratio[n];
        for (int c = 0; c < n; c++) {
            kept[c] = Ratio.of(x.kept(0, c, 0), x.kept(0, c, 1));
        }
        for (int at = 0; at < 5; at++) {
            Ratio drift = Ratio.ZERO;
            int upto = 0;
            for (int c = 0; c < n; c++) {
                upto |= year[c] <= at ? 1 << c : 0;
                if (year[c] == at) {
                    drift = drift.plus(Ratio.of(given[c], 1).minus(kept[c]).times(Ratio.of(weight[c], 1)));
                }
            }
            same("drift up", x.drift(at, 0), drift.part(0));
            same("drift low", x.drift(at, 1), drift.part(1));
            if (at % 2 == 1) {
                Ratio cost = costOf(upto);
                same("upto up", x.upto(at, 0), cost.part(0));
                same("upto low", x.upto(at, 1), cost.part(1));
            }
        }
        same("upto all years", x.upto(99, 0), x.cost(0, 0));
        Ratio lost = Ratio.of(x.grid(0, 1, 0), x.grid(0, 1, 1)).minus(Ratio.of(x.cost(0, 0), x.cost(0, 1)));
        same("loses up", x.loses(0, 1, 0), lost.part(0));
        same("loses low", x.loses(0, 1, 1), lost.part(1));
    }

    public static void main(String[] args) {
        int times = args.length > 0 ? Integer.parseInt(args[0]) : 150;
        for (int seed = 0; seed < times && wrong < 20; seed++) {
            run = "seed " + seed;
            Random r = new Random(seed);
            BigBooksTest t = new BigBooksTest(r, seed % 3 == 0 ? 16 : 8 + r.nextInt(9), seed % 2 == 0);
            t.x = Texts.withBook(t.text);
            t.squares();
            t.gaps();
            t.again();
            t.runs();
            t.years();
        }
        System.out.println("BigBooksTest: " + wrong + " wrong");
        if (wrong != 0) {
            System.exit(1);
        }
    }
}
