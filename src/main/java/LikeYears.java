import java.util.Arrays;

/** Like cases, like years: what each call does is told by the document's promises. */
public final class LikeYears {
    public static final int NONE = -1;

    private static final long NO_FRACTION = -1000000000000L;

    private static final int MOST_BYTES = 1300;
    private static final int MOST_LAW_BYTES = 500;
    private static final int MOST_MARKS = 6;
    private static final int MOST_STEP = 11;
    private static final int MOST_CASES = 16;
    private static final int MOST_TOLD = 20;
    private static final int MOST_JUDGE = 9;
    private static final int MOST_YEAR = 99;
    private static final int MOST_GIVEN = 240;
    private static final int MOST_WEIGHT = 4;
    private static final int MOST_RUNS = 12;
    private static final int MOST_LAWS = 8;
    private static final int MOST_UNITS = 50;
    private static final int MOST_WITHIN = 6;
    private static final int BOXES = 3;

    /** The row of a book's steps in which THE NEW CASE has its own, behind those of all cases. */
    private static final int NEW_CASE = MOST_CASES;

    private static final int FIT_SQUARES = 0;
    private static final int FIT_GAPS = 1;
    private static final int FIT_GREATEST = 2;

    private static final int KNOWS_ORDER = 1;
    private static final int KNOWS_SQUARES = 2;
    private static final int KNOWS_GAPS = 4;
    private static final int KNOWS_AGAIN = 8;
    private static final int KNOWS_BEST = 16;

    private static final int FAULT_NO_TOKEN = 1;
    private static final int FAULT_CANNOT_STAND = 2;
    private static final int FAULT_TOLD_ALREADY = 3;
    private static final int FAULT_NUMBER = 4;
    private static final int FAULT_NO_SUCH_NAME = 5;
    private static final int FAULT_TOLD_AGAINST = 6;

    // A word is held as its bytes, the first one highest: 8 letters fill a long.
    private static final long WORD_MARK = 0x6D61726BL;
    private static final long WORD_TO = 0x746FL;
    private static final long WORD_NEVER = 0x6E65766572L;
    private static final long WORD_CASE = 0x63617365L;
    private static final long WORD_JUDGE = 0x6A75646765L;
    private static final long WORD_IN = 0x696EL;
    private static final long WORD_GIVEN = 0x676976656EL;
    private static final long WORD_WEIGHT = 0x776569676874L;
    private static final long WORD_TOLD = 0x746F6C64L;
    private static final long WORD_OVER = 0x6F766572L;
    private static final long WORD_WHEN = 0x7768656EL;
    private static final long WORD_LEAST = 0x6C65617374L;
    private static final long WORD_MOST = 0x6D6F7374L;
    private static final long WORD_OR = 0x6F72L;
    private static final long WORD_AND = 0x616E64L;
    private static final long WORD_NOT = 0x6E6F74L;
    private static final long[] NO_NAMES = {
        WORD_MARK, WORD_TO, WORD_NEVER, WORD_CASE, WORD_JUDGE, WORD_IN, WORD_GIVEN, WORD_WEIGHT,
        WORD_TOLD, WORD_OVER, WORD_WHEN, WORD_LEAST, WORD_MOST, WORD_OR, WORD_AND, WORD_NOT
    };

    private final Tape tape;
    private final BookReader reader;
    private Book book;
    private Book spareBook;
    private Laws rules;
    private Laws spareRules;
    private final Book[] boxes;
    private final boolean[] boxFull;
    private final Acts acts;
    private final Order order;
    private final Order trialOrder;
    private final Nearest nearest;
    private final Nearest trial;
    private final Choices choices;
    private final Parting parting;
    private final Fraction answer;
    private int bestPair;
    /** What has been reckoned for the book as it stands (KNOWS_..), so that it is not reckoned again. */
    private int known;

    public LikeYears() {
        tape = new Tape();
        trialOrder = new Order();
        reader = new BookReader(tape, trialOrder);
        book = new Book();
        spareBook = new Book();
        rules = new Laws(tape);
        spareRules = new Laws(tape);
        boxes = new Book[BOXES];
        for (int i = 0; i < BOXES; i++) {
            boxes[i] = new Book();
        }
        boxFull = new boolean[BOXES];
        acts = new Acts();
        order = new Order();
        Cut cut = new Cut();
        nearest = new Nearest(cut);
        trial = new Nearest(cut);
        choices = new Choices();
        parting = new Parting();
        answer = new Fraction();
    }

    public int feed(int a, int b, int c, int d, int e) {
        if (tape.size + 20 > MOST_BYTES) {
            return NONE;
        }
        tape.put(a);
        tape.put(b);
        tape.put(c);
        tape.put(d);
        tape.put(e);
        return tape.size;
    }

    public int end(int n) {
        if (n < 0 || n > tape.size) {
            return NONE;
        }
        tape.size = n;
        return n;
    }

    public int book() {
        boolean good = reader.read(spareBook);
        tape.size = 0;
        if (!good) {
            return NONE;
        }
        Book old = book;
        book = spareBook;
        spareBook = old;
        rules.lines = 0;
        acts.forget();
        for (int i = 0; i < BOXES; i++) {
            boxFull[i] = false;
        }
        known = 0;
        return reader.lines;
    }

    public int laws() {
        if (tape.size > MOST_LAW_BYTES) {
            return -2;
        }
        boolean good = spareRules.read(book);
        tape.size = 0;
        if (!good) {
            return NONE;
        }
        Laws old = rules;
        rules = spareRules;
        spareRules = old;
        return rules.lines;
    }

    public int fault(int what) {
        if (what == 0) {
            return tape.wrong;
        }
        return what == 1 ? tape.wrongPlace : NONE;
    }

    public int worse(int a, int b) {
        if (!book.isCase(a) || !book.isCase(b)) {
            return NONE;
        }
        Order o = knownOrder();
        if (!o.isOver(a, b)) {
            return 0;
        }
        return o.isOver(b, a) ? 2 : 1;
    }

    public int clash(int what) {
        Order o = knownOrder();
        switch (what) {
            case 0:
                return o.pairs(book, false);
            case 1:
                return o.gapsTogether(book);
            case 2:
                return o.greatestGap(book);
            default:
                return NONE;
        }
    }

    public int oddest(int what) {
        if (what < 0 || what > 2) {
            return NONE;
        }
        Order o = knownOrder();
        int odd = o.oddestOf(book);
        if (odd < 0 || what == 0) {
            return odd;
        }
        return what == 1 ? Integer.bitCount(o.foes(book, odd)) : o.gapsOf(book, odd);
    }

    public int beside(int a) {
        return book.isCase(a) ? knownOrder().besideOf(book, a) : NONE;
    }

    public long kept(int fit, int a, int part) {
        if (!book.isCase(a) || !isPart(part)) {
            return NONE;
        }
        switch (fit) {
            case FIT_SQUARES:
                return knownSquares().partOf(a, part);
            case FIT_GAPS:
                answer.set(knownGaps().months[a], 1);
                break;
            case FIT_GREATEST:
                answer.set(knownOrder().twiceMiddle(book, a), 2);
                break;
            default:
                return NONE;
        }
        return answer.part(part);
    }

    public long cost(int fit, int part) {
        if (!isPart(part)) {
            return NONE;
        }
        switch (fit) {
            case FIT_SQUARES:
                return knownSquares().total.part(part);
            case FIT_GAPS:
                answer.set(knownGaps().gapsTotal, 1);
                break;
            case FIT_GREATEST:
                answer.set(knownOrder().twiceGreatest(book), 2);
                break;
            default:
                return NONE;
        }
        return answer.part(part);
    }

    public int block(int a) {
        return book.isCase(a) ? knownSquares().block[a] : NONE;
    }

    public int again(int what) {
        if (what < 0 || what > 2) {
            return NONE;
        }
        if ((known & KNOWS_AGAIN) == 0) {
            choices.cover(book, knownOrder());
            known |= KNOWS_AGAIN;
        }
        if (what == 0) {
            return choices.fewest;
        }
        return what == 1 ? choices.leastCover : choices.covers;
    }

    public long grid(int a, int b, int part) {
        if (!isGrid(a, b) || !isPart(part)) {
            return NONE;
        }
        return gridCost(a, b).part(part);
    }

    public long loses(int a, int b, int part) {
        if (!isGrid(a, b) || !isPart(part)) {
            return NO_FRACTION;
        }
        Fraction all = knownSquares().total;
        Fraction two = gridCost(a, b);
        answer.set(two.up, two.low);
        answer.add(-all.up, all.low);
        return answer.part(part);
    }

    public int best() {
        if (book.marks < 2) {
            return NONE;
        }
        if ((known & KNOWS_BEST) == 0) {
            bestPair = findBest();
            known |= KNOWS_BEST;
        }
        return bestPair;
    }

    public long runs(int mark, int most, int part) {
        if (!isRuns(mark, most) || !isPart(part)) {
            return NONE;
        }
        parting.reckon(book, mark, most);
        return parting.total.part(part);
    }

    public int begins(int mark, int most) {
        if (!isRuns(mark, most)) {
            return NONE;
        }
        parting.reckon(book, mark, most);
        return parting.starts;
    }

    public int off(int judge) {
        if (judge < 0 || judge > MOST_JUDGE) {
            return NONE;
        }
        Nearest n = knownGaps();
        int together = 0;
        for (int c = 0; c < book.cases; c++) {
            if (book.judge[c] == judge) {
                together += n.share[c];
            }
        }
        return together;
    }

    public long luck(int judge, int part) {
        if (judge < 0 || judge > MOST_JUDGE || !isPart(part)) {
            return NONE;
        }
        int own = 0;
        for (int c = 0; c < book.cases; c++) {
            if (book.judge[c] == judge) {
                own++;
            }
        }
        if (own == 0) {
            return NONE;
        }
        int much = off(judge);
        int good = choices.draws(nearest.share, book.cases, own, much);
        answer.set(good, Choices.choose(book.cases, own));
        return answer.part(part);
    }

    public long upto(int year, int part) {
        if (!isYear(year) || !isPart(part)) {
            return NONE;
        }
        int set = 0;
        for (int c = 0; c < book.cases; c++) {
            if (book.year[c] <= year) {
                set |= 1 << c;
            }
        }
        trial.fitSquares(book, knownOrder().above, set);
        return trial.total.part(part);
    }

    public long drift(int year, int part) {
        if (!isYear(year) || !isPart(part)) {
            return NO_FRACTION;
        }
        Nearest n = knownSquares();
        answer.set(0, 1);
        for (int c = 0; c < book.cases; c++) {
            if (book.year[c] == year) {
                answer.add(book.weight[c] * (book.given[c] * n.low[c] - n.up[c]), n.low[c]);
            }
        }
        return answer.part(part);
    }

    public int within() {
        return knownOrder().pairs(book, true);
    }

    public int law(int mark, int step, int least, int most, int what) {
        if (!book.isStep(mark, step) || least < 0 || most > MOST_GIVEN || most < least) {
            return NONE;
        }
        int number = 0;
        int together = 0;
        for (int c = 0; c < book.cases; c++) {
            if (book.stepOf(c, mark) >= step) {
                int by = outside(book.given[c], least, most);
                together += by;
                number += by > 0 ? 1 : 0;
            }
        }
        if (what == 0) {
            return number;
        }
        return what == 1 ? together : NONE;
    }

    public int lawOf(int a) {
        return book.isCase(a) ? rules.lineFor(book, a) : NONE;
    }

    public int moved(int what) {
        int number = 0;
        int together = 0;
        int farthest = 0;
        int first = NONE;
        for (int c = 0; c < book.cases; c++) {
            int by = moveOf(c);
            together += by;
            number += by > 0 ? 1 : 0;
            if (by > farthest) {
                farthest = by;
                first = c;
            }
        }
        switch (what) {
            case 0:
                return number;
            case 1:
                return together;
            case 2:
                return first;
            default:
                return NONE;
        }
    }

    public int mercy(int what) {
        int mark = NONE;
        int fewest = NONE;
        for (int m = 0; m < book.marks; m++) {
            if (!book.isCounted(m)) {
                trialOrder.fill(book, book.counted | 1 << m);
                trialOrder.tellAll(book);
                int pairs = trialOrder.pairs(book, false);
                if (mark < 0 || pairs < fewest) {
                    mark = m;
                    fewest = pairs;
                }
            }
        }
        if (what == 0) {
            return mark;
        }
        return what == 1 ? fewest : NONE;
    }

    public boolean step(int mark, int step) {
        if (!book.isStep(mark, step)) {
            return false;
        }
        book.setStep(NEW_CASE, mark, step);
        return true;
    }

    public long ends(boolean high, int part) {
        if (!isPart(part)) {
            return NONE;
        }
        Nearest n = knownSquares();
        int set = high ? knownOrder().overNew(book) : knownOrder().underNew(book);
        int pick = NONE;
        for (int c = 0; c < book.cases; c++) {
            if ((set >> c & 1) != 0 && (pick < 0 || n.isFarther(c, pick, high))) {
                pick = c;
            }
        }
        if (pick < 0) {
            return NONE;
        }
        return n.partOf(pick, part);
    }

    public int first(int given) {
        if (!isGiven(given)) {
            return NONE;
        }
        int over = knownOrder().overNew(book);
        int under = knownOrder().underNew(book);
        for (int c = 0; c < book.cases; c++) {
            boolean tooLittle = (under >> c & 1) != 0 && given < book.given[c];
            boolean tooMuch = (over >> c & 1) != 0 && given > book.given[c];
            if (tooLittle || tooMuch) {
                return c;
            }
        }
        return NONE;
    }

    public int come(int judge, int year, int given, int weight) {
        boolean can = judge >= 0 && judge <= MOST_JUDGE && isYear(year) && isGiven(given)
            && weight >= 1 && weight <= MOST_WEIGHT;
        if (!can || book.cases >= MOST_CASES) {
            return NONE;
        }
        int number = book.cases;
        book.setCase(number, judge, year, given, weight);
        for (int m = 0; m < book.marks; m++) {
            book.setStep(number, m, book.stepOf(NEW_CASE, m));
        }
        act(Acts.COME, number, 0, 0);
        return number;
    }

    public boolean count(int mark, boolean does) {
        if (!book.isMark(mark) || book.isCounted(mark) == does) {
            return false;
        }
        trialOrder.fill(book, book.counted ^ 1 << mark);
        if (trialOrder.tellAll(book) >= 0) {
            return false;
        }
        act(Acts.COUNT, mark, does ? 0 : 1, does ? 1 : 0);
        return true;
    }

    public boolean give(int a, int given) {
        if (!book.isCase(a) || !isGiven(given) || book.given[a] == given) {
            return false;
        }
        act(Acts.GIVE, a, book.given[a], given);
        return true;
    }

    public boolean undo() {
        boolean taken = acts.takeBack(book);
        known = taken ? 0 : known;
        return taken;
    }

    public boolean redo() {
        boolean done = acts.doAgain(book);
        known = done ? 0 : known;
        return done;
    }

    public int keep(int box) {
        if (box < 0 || box >= BOXES) {
            return NONE;
        }
        boxes[box].copyCases(book);
        boxFull[box] = true;
        return book.cases;
    }

    public int back(int box) {
        if (box < 0 || box >= BOXES || !boxFull[box]) {
            return NONE;
        }
        book.copyCases(boxes[box]);
        acts.forget();
        known = 0;
        return book.cases;
    }

    public int about(int what) {
        switch (what) {
            case 0:
                return book.marks;
            case 1:
                return book.cases;
            case 2:
                return book.tolds;
            case 3:
                return acts.done;
            case 4:
                return tape.size;
            case 5:
                return rules.lines;
            default:
                return what >= 10 && what - 10 < book.cases ? book.given[what - 10] : NONE;
        }
    }

    private static boolean isPart(int part) {
        return part == 0 || part == 1;
    }

    private static boolean isYear(int year) {
        return year >= 0 && year <= MOST_YEAR;
    }

    private static boolean isGiven(int given) {
        return given >= 0 && given <= MOST_GIVEN;
    }

    private boolean isGrid(int a, int b) {
        return book.isMark(a) && book.isMark(b) && a < b;
    }

    private boolean isRuns(int mark, int most) {
        return book.isMark(mark) && most >= 1 && most <= MOST_RUNS;
    }

    private Order knownOrder() {
        if ((known & KNOWS_ORDER) == 0) {
            order.fill(book, book.counted);
            order.tellAll(book);
            known |= KNOWS_ORDER;
        }
        return order;
    }

    private Nearest knownSquares() {
        if ((known & KNOWS_SQUARES) == 0) {
            nearest.fitSquares(book, knownOrder().above, book.allCases());
            known |= KNOWS_SQUARES;
        }
        return nearest;
    }

    private Nearest knownGaps() {
        if ((known & KNOWS_GAPS) == 0) {
            nearest.fitGaps(book, knownOrder().above);
            known |= KNOWS_GAPS;
        }
        return nearest;
    }

    private Fraction gridCost(int a, int b) {
        trialOrder.fill(book, 1 << a | 1 << b);
        trial.fitSquares(book, trialOrder.above, book.allCases());
        return trial.total;
    }

    private int findBest() {
        int pair = NONE;
        for (int a = 0; a < book.marks; a++) {
            for (int b = a + 1; b < book.marks; b++) {
                Fraction two = gridCost(a, b);
                if (pair < 0 || Fraction.compare(two.up, two.low, answer.up, answer.low) < 0) {
                    answer.set(two.up, two.low);
                    pair = 10 * a + b;
                }
            }
        }
        return pair;
    }

    private static int outside(int given, int least, int most) {
        if (given < least) {
            return least - given;
        }
        return given > most ? given - most : 0;
    }

    private int moveOf(int c) {
        int line = rules.lineFor(book, c);
        return line < 0 ? 0 : outside(book.given[c], rules.least[line], rules.most[line]);
    }

    private void act(int kind, int which, int before, int after) {
        acts.add(kind, which, before, after);
        Acts.carryOut(book, kind, which, after);
        known = 0;
    }

    /** The bytes that came; for a reader the tokens in them, and the fault that it finds. */
    private static final class Tape {
        static final int KIND_END = 0;
        static final int KIND_WORD = 1;
        static final int KIND_NUMBER = 2;
        static final int KIND_SIGN = 3;
        static final int KIND_NO_TOKEN = 4;
        private static final String LAW_SIGNS = "()<>=+-*";

        int size;
        int wrong;
        int wrongPlace = NONE;
        /** The token that is read now: its kind, its first byte, and its word, number or sign. */
        int kind;
        int place;
        long value;
        private final byte[] bytes = new byte[MOST_BYTES];
        // A token has at least one byte; the end stands behind them all.
        private final int[] kinds = new int[MOST_BYTES + 1];
        private final int[] places = new int[MOST_BYTES + 1];
        private final long[] values = new long[MOST_BYTES + 1];
        private int tokens;
        private int now;

        void put(int four) {
            for (int shift = 24; shift >= 0 && size < MOST_BYTES; shift -= 8) {
                bytes[size] = (byte) (four >> shift);
                size++;
            }
        }

        void open(boolean forLaws) {
            wrong = 0;
            wrongPlace = NONE;
            tokens = 0;
            int at = 0;
            for (int i = 0; i < MOST_BYTES && at < size; i++) {
                boolean blank = bytes[at] == 32 || bytes[at] == 10;
                at = blank ? at + 1 : scanToken(at, forLaws);
            }
            note(KIND_END, size, 0);
            now = -1;
            next();
        }

        void next() {
            if (now < tokens - 1) {
                now++;
            }
            kind = kinds[now];
            place = places[now];
            value = values[now];
        }

        private void note(int itsKind, int at, long itsValue) {
            if (tokens <= MOST_BYTES) {
                kinds[tokens] = itsKind;
                places[tokens] = at;
                values[tokens] = itsValue;
                tokens++;
            }
        }

        /** The place behind the token. */
        private int scanToken(int at, boolean forLaws) {
            if (isLetter(bytes[at])) {
                return scanWord(at);
            }
            if (isDigit(bytes[at])) {
                return scanNumber(at);
            }
            char sign = (char) (bytes[at] & 255);
            boolean stands = sign == ';' || forLaws && LAW_SIGNS.indexOf(sign) >= 0;
            note(stands ? KIND_SIGN : KIND_NO_TOKEN, at, sign);
            return at + 1;
        }

        private static boolean isLetter(int b) {
            return b >= 'a' && b <= 'z';
        }

        private static boolean isDigit(int b) {
            return b >= '0' && b <= '9';
        }

        private int scanWord(int from) {
            long word = 0;
            int at = from;
            for (; at < size && isLetter(bytes[at]); at++) {
                word = word << 8 | bytes[at];
            }
            note(at - from > 8 ? KIND_NO_TOKEN : KIND_WORD, from, word);
            return at;
        }

        private int scanNumber(int from) {
            long number = 0;
            int at = from;
            for (; at < size && isDigit(bytes[at]); at++) {
                number = number * 10 + bytes[at] - '0';
            }
            boolean letterBehind = at < size && isLetter(bytes[at]);
            note(at - from > 4 || letterBehind ? KIND_NO_TOKEN : KIND_NUMBER, from, number);
            return at;
        }

        /** Notes a fault at this token; of what is no token the lesser fault 1 is told. */
        boolean refuse(int fault) {
            wrong = kind == KIND_NO_TOKEN ? FAULT_NO_TOKEN : fault;
            wrongPlace = place;
            return false;
        }

        boolean isWord(long word) {
            return kind == KIND_WORD && value == word;
        }

        boolean isSign(char sign) {
            return kind == KIND_SIGN && value == sign;
        }

        boolean isName() {
            boolean name = kind == KIND_WORD;
            for (int i = 0; i < NO_NAMES.length && name; i++) {
                name = value != NO_NAMES[i];
            }
            return name;
        }

        boolean passWord(long word) {
            if (!isWord(word)) {
                return refuse(FAULT_CANNOT_STAND);
            }
            next();
            return true;
        }

        boolean passSign(char sign) {
            if (!isSign(sign)) {
                return refuse(FAULT_CANNOT_STAND);
            }
            next();
            return true;
        }

        /** The number that stands here, or NONE behind a fault. */
        int passNumber(int least, int most) {
            if (kind != KIND_NUMBER) {
                refuse(FAULT_CANNOT_STAND);
                return NONE;
            }
            int number = (int) value;
            if (number < least || number > most) {
                refuse(FAULT_NUMBER);
                return NONE;
            }
            next();
            return number;
        }

        /** The number behind a word, or NONE behind a fault. */
        int passNumberOf(long word, int least, int most) {
            return passWord(word) ? passNumber(least, most) : NONE;
        }
    }

    /** Marks, cases and what is told; a box uses the cases of one, and which marks count. */
    private static final class Book {
        int marks;
        final long[] markNames = new long[MOST_MARKS];
        final int[] tops = new int[MOST_MARKS];
        int counted;
        int cases;
        final int[] judge = new int[MOST_CASES];
        final int[] year = new int[MOST_CASES];
        final int[] given = new int[MOST_CASES];
        final int[] weight = new int[MOST_CASES];
        private final int[] steps = new int[(MOST_CASES + 1) * MOST_MARKS];
        int tolds;
        final int[] toldOver = new int[MOST_TOLD];
        final int[] toldUnder = new int[MOST_TOLD];

        void empty() {
            marks = 0;
            counted = 0;
            cases = 0;
            tolds = 0;
            Arrays.fill(steps, 0);
        }

        void addMark(long name, int top) {
            markNames[marks] = name;
            tops[marks] = top;
            counted |= 1 << marks;
            marks++;
        }

        void addTold(int over, int under) {
            toldOver[tolds] = over;
            toldUnder[tolds] = under;
            tolds++;
        }

        void setCase(int c, int itsJudge, int itsYear, int itsGiven, int itsWeight) {
            judge[c] = itsJudge;
            year[c] = itsYear;
            given[c] = itsGiven;
            weight[c] = itsWeight;
        }

        int markNamed(long name) {
            for (int m = 0; m < marks; m++) {
                if (markNames[m] == name) {
                    return m;
                }
            }
            return NONE;
        }

        boolean isMark(int m) {
            return m >= 0 && m < marks;
        }

        boolean isCase(int c) {
            return c >= 0 && c < cases;
        }

        boolean isStep(int m, int step) {
            return isMark(m) && step >= 0 && step <= tops[m];
        }

        boolean isCounted(int m) {
            return (counted >> m & 1) != 0;
        }

        int stepOf(int c, int m) {
            return steps[c * MOST_MARKS + m];
        }

        void setStep(int c, int m, int step) {
            steps[c * MOST_MARKS + m] = step;
        }

        int allCases() {
            return (1 << cases) - 1;
        }

        /** Whether of each of these marks the step of case a is no less than that of b. */
        boolean noLess(int a, int b, int ofMarks) {
            for (int m = 0; m < marks; m++) {
                if ((ofMarks >> m & 1) != 0 && stepOf(a, m) < stepOf(b, m)) {
                    return false;
                }
            }
            return true;
        }

        /** Takes over the cases and what counts; THE NEW CASE, behind the last row, keeps its steps. */
        void copyCases(Book from) {
            counted = from.counted;
            cases = from.cases;
            System.arraycopy(from.judge, 0, judge, 0, MOST_CASES);
            System.arraycopy(from.year, 0, year, 0, MOST_CASES);
            System.arraycopy(from.given, 0, given, 0, MOST_CASES);
            System.arraycopy(from.weight, 0, weight, 0, MOST_CASES);
            System.arraycopy(from.steps, 0, steps, 0, MOST_CASES * MOST_MARKS);
        }
    }

    /** Reads a book's text from the tape, up to its first fault. */
    private static final class BookReader {
        private final Tape tape;
        private final Order order;
        private Book book;
        private final long[] caseNames = new long[MOST_CASES];
        private final int[] toldPlaces = new int[MOST_TOLD];
        int lines;

        BookReader(Tape from, Order scratch) {
            tape = from;
            order = scratch;
        }

        boolean read(Book target) {
            book = target;
            book.empty();
            lines = 0;
            tape.open(false);
            for (int i = 0; i <= MOST_BYTES && tape.kind != Tape.KIND_END; i++) {
                if (!readLine()) {
                    return false;
                }
                lines++;
            }
            return toldHolds();
        }

        private boolean readLine() {
            if (tape.isWord(WORD_MARK)) {
                return readMark();
            }
            if (tape.isWord(WORD_NEVER)) {
                return readNever();
            }
            if (tape.isWord(WORD_CASE)) {
                return readCase();
            }
            if (tape.isWord(WORD_TOLD)) {
                return readTold();
            }
            return tape.refuse(FAULT_CANNOT_STAND);
        }

        private boolean readMark() {
            if (book.marks >= MOST_MARKS) {
                return tape.refuse(FAULT_CANNOT_STAND);
            }
            tape.next();
            long name = passNewName();
            if (name == 0) {
                return false;
            }
            int top = tape.passNumberOf(WORD_TO, 1, MOST_STEP);
            if (top < 0 || !tape.passSign(';')) {
                return false;
            }
            book.addMark(name, top);
            return true;
        }

        private boolean readNever() {
            tape.next();
            int mark = markHere();
            if (mark < 0) {
                return false;
            }
            if (!book.isCounted(mark)) {
                return tape.refuse(FAULT_TOLD_ALREADY);
            }
            tape.next();
            book.counted &= ~(1 << mark);
            return tape.passSign(';');
        }

        private boolean readCase() {
            if (book.cases >= MOST_CASES) {
                return tape.refuse(FAULT_CANNOT_STAND);
            }
            tape.next();
            long name = passNewName();
            if (name == 0 || !readFacts() || !readSteps()) {
                return false;
            }
            caseNames[book.cases] = name;
            book.cases++;
            return true;
        }

        private boolean readFacts() {
            int judge = tape.passNumberOf(WORD_JUDGE, 0, MOST_JUDGE);
            if (judge < 0) {
                return false;
            }
            int year = tape.passNumberOf(WORD_IN, 0, MOST_YEAR);
            if (year < 0) {
                return false;
            }
            int given = tape.passNumberOf(WORD_GIVEN, 0, MOST_GIVEN);
            if (given < 0) {
                return false;
            }
            int weight = tape.passNumberOf(WORD_WEIGHT, 1, MOST_WEIGHT);
            if (weight < 0) {
                return false;
            }
            book.setCase(book.cases, judge, year, given, weight);
            return true;
        }

        private boolean readSteps() {
            int told = 0;
            for (int i = 0; i <= MOST_MARKS && !tape.isSign(';'); i++) {
                int mark = markHere();
                if (mark < 0) {
                    return false;
                }
                if ((told >> mark & 1) != 0) {
                    return tape.refuse(FAULT_TOLD_ALREADY);
                }
                told |= 1 << mark;
                tape.next();
                int step = tape.passNumber(0, book.tops[mark]);
                if (step < 0) {
                    return false;
                }
                book.setStep(book.cases, mark, step);
            }
            return tape.passSign(';');
        }

        private boolean readTold() {
            if (book.tolds >= MOST_TOLD) {
                return tape.refuse(FAULT_CANNOT_STAND);
            }
            tape.next();
            int over = passCase();
            if (over < 0 || !tape.passWord(WORD_OVER)) {
                return false;
            }
            toldPlaces[book.tolds] = tape.place;
            int under = passCase();
            if (under < 0 || !tape.passSign(';')) {
                return false;
            }
            book.addTold(over, under);
            return true;
        }

        /** A name that none bears yet, or 0 behind a fault. */
        private long passNewName() {
            if (!tape.isName()) {
                tape.refuse(FAULT_CANNOT_STAND);
                return 0;
            }
            long name = tape.value;
            if (book.markNamed(name) >= 0 || caseNamed(name) >= 0) {
                tape.refuse(FAULT_TOLD_ALREADY);
                return 0;
            }
            tape.next();
            return name;
        }

        /** The mark whose name stands here (it is not passed: it may still be refused), or NONE. */
        private int markHere() {
            if (!tape.isName()) {
                tape.refuse(FAULT_CANNOT_STAND);
                return NONE;
            }
            int mark = book.markNamed(tape.value);
            if (mark < 0) {
                tape.refuse(FAULT_NO_SUCH_NAME);
            }
            return mark;
        }

        private int passCase() {
            if (!tape.isName()) {
                tape.refuse(FAULT_CANNOT_STAND);
                return NONE;
            }
            int c = caseNamed(tape.value);
            if (c < 0) {
                tape.refuse(FAULT_NO_SUCH_NAME);
                return NONE;
            }
            tape.next();
            return c;
        }

        private int caseNamed(long name) {
            for (int c = 0; c < book.cases; c++) {
                if (caseNames[c] == name) {
                    return c;
                }
            }
            return NONE;
        }

        private boolean toldHolds() {
            order.fill(book, book.counted);
            int line = order.tellAll(book);
            if (line < 0) {
                return true;
            }
            tape.wrong = FAULT_TOLD_AGAINST;
            tape.wrongPlace = toldPlaces[line];
            return false;
        }
    }

    /** Laws, held as rows of signs that work on a stack; they are read from the tape, too. */
    private static final class Laws {
        private static final int PUT_NUMBER = 0;
        private static final int PUT_STEP = 1;
        private static final int PUT_JUDGE = 2;
        private static final int PUT_YEAR = 3;
        private static final int PUT_GIVEN = 4;
        private static final int PUT_WEIGHT = 5;
        private static final int DO_NOT = 6;
        private static final int DO_OR = 7;
        private static final int DO_AND = 8;
        private static final int DO_LESS = 9;
        private static final int DO_MORE = 10;
        private static final int DO_SAME = 11;
        private static final int DO_ADD = 12;
        private static final int DO_TAKE = 13;
        private static final int DO_TIMES = 14;

        private static final int LEVEL_EITHER = 0;
        private static final int LEVEL_BOTH = 1;
        private static final int LEVEL_ONE = 2;
        private static final int LEVEL_SUM = 3;
        private static final int LEVEL_TERM = 4;
        private static final int LEVEL_UNIT = 5;

        private final Tape tape;
        private Book book;
        int lines;
        final int[] least = new int[MOST_LAWS];
        final int[] most = new int[MOST_LAWS];
        private final int[] stops = new int[MOST_LAWS];
        // A sign stands for at least one byte of the text, so there are never more signs than bytes.
        private final int[] signs = new int[MOST_LAW_BYTES];
        private final int[] values = new int[MOST_LAW_BYTES];
        private int size;
        private int units;
        private final int[] stack = new int[MOST_UNITS];
        private int height;

        Laws(Tape from) {
            tape = from;
        }

        boolean read(Book marksFrom) {
            book = marksFrom;
            lines = 0;
            size = 0;
            units = 0;
            tape.open(true);
            for (int i = 0; i <= MOST_LAW_BYTES && tape.kind != Tape.KIND_END; i++) {
                if (!readLine()) {
                    return false;
                }
            }
            return true;
        }

        private boolean readLine() {
            if (lines >= MOST_LAWS) {
                return tape.refuse(FAULT_CANNOT_STAND);
            }
            if (!tape.passWord(WORD_WHEN) || !readLevel(LEVEL_EITHER, 0)) {
                return false;
            }
            int low = tape.passNumberOf(WORD_LEAST, 0, MOST_GIVEN);
            if (low < 0) {
                return false;
            }
            int high = tape.passNumberOf(WORD_MOST, low, MOST_GIVEN);
            if (high < 0 || !tape.passSign(';')) {
                return false;
            }
            least[lines] = low;
            most[lines] = high;
            stops[lines] = size;
            lines++;
            return true;
        }

        /**
         * e, both, one, sum and term are alike: what the next level reads, joined by signs of this one.
         * Each unit ( e ) and each not goes one further within; what would be too far is refused.
         */
        private boolean readLevel(int level, int within) {
            if (level == LEVEL_UNIT) {
                return readUnit(within);
            }
            if (level == LEVEL_ONE && tape.isWord(WORD_NOT)) {
                if (within > MOST_WITHIN) {
                    return tape.refuse(FAULT_CANNOT_STAND);
                }
                tape.next();
                return readLevel(LEVEL_ONE, within + 1) && write(DO_NOT, 0);
            }
            boolean good = readLevel(level + 1, within);
            // A relation stands between two sums alone; the others join as many as there are units.
            int joins = level == LEVEL_ONE ? 1 : MOST_UNITS;
            for (int i = 0; i < joins && good && signHere(level) >= 0; i++) {
                int sign = signHere(level);
                tape.next();
                good = readLevel(level + 1, within) && write(sign, 0);
            }
            return good;
        }

        private int signHere(int level) {
            switch (level) {
                case LEVEL_EITHER:
                    return tape.isWord(WORD_OR) ? DO_OR : NONE;
                case LEVEL_BOTH:
                    return tape.isWord(WORD_AND) ? DO_AND : NONE;
                case LEVEL_ONE:
                    return relationHere();
                case LEVEL_SUM:
                    return tape.isSign('+') ? DO_ADD : tape.isSign('-') ? DO_TAKE : NONE;
                case LEVEL_TERM:
                    return tape.isSign('*') ? DO_TIMES : NONE;
                default:
                    return NONE;
            }
        }

        private int relationHere() {
            if (tape.isSign('<')) {
                return DO_LESS;
            }
            if (tape.isSign('>')) {
                return DO_MORE;
            }
            return tape.isSign('=') ? DO_SAME : NONE;
        }

        private boolean readUnit(int within) {
            if (units >= MOST_UNITS) {
                return tape.refuse(FAULT_CANNOT_STAND);
            }
            units++;
            if (tape.isSign('(')) {
                if (within > MOST_WITHIN) {
                    return tape.refuse(FAULT_CANNOT_STAND);
                }
                tape.next();
                return readLevel(LEVEL_EITHER, within + 1) && tape.passSign(')');
            }
            return readPlainUnit();
        }

        private boolean readPlainUnit() {
            if (tape.kind == Tape.KIND_NUMBER) {
                write(PUT_NUMBER, (int) tape.value);
            } else if (tape.isName()) {
                int mark = book.markNamed(tape.value);
                if (mark < 0) {
                    return tape.refuse(FAULT_NO_SUCH_NAME);
                }
                write(PUT_STEP, mark);
            } else {
                int fact = factHere();
                if (fact < 0) {
                    return tape.refuse(FAULT_CANNOT_STAND);
                }
                write(fact, 0);
            }
            tape.next();
            return true;
        }

        private int factHere() {
            if (tape.isWord(WORD_JUDGE)) {
                return PUT_JUDGE;
            }
            if (tape.isWord(WORD_IN)) {
                return PUT_YEAR;
            }
            if (tape.isWord(WORD_GIVEN)) {
                return PUT_GIVEN;
            }
            return tape.isWord(WORD_WEIGHT) ? PUT_WEIGHT : NONE;
        }

        private boolean write(int sign, int value) {
            if (size < MOST_LAW_BYTES) {
                signs[size] = sign;
                values[size] = value;
                size++;
            }
            return true;
        }

        /** The first line that is not 0 for a case, or NONE. */
        int lineFor(Book of, int c) {
            int from = 0;
            for (int line = 0; line < lines; line++) {
                if (worth(of, c, from, stops[line]) != 0) {
                    return line;
                }
                from = stops[line];
            }
            return NONE;
        }

        private int worth(Book of, int c, int from, int to) {
            height = 0;
            for (int i = from; i < to; i++) {
                if (signs[i] < DO_NOT) {
                    push(fact(of, c, signs[i], values[i]));
                } else if (signs[i] == DO_NOT) {
                    push(pop() == 0 ? 1 : 0);
                } else {
                    int right = pop();
                    push(join(signs[i], pop(), right));
                }
            }
            return pop();
        }

        private void push(int value) {
            if (height < MOST_UNITS) {
                stack[height] = value;
                height++;
            }
        }

        private int pop() {
            if (height == 0) {
                return 0;
            }
            height--;
            return stack[height];
        }

        private static int fact(Book of, int c, int sign, int value) {
            switch (sign) {
                case PUT_STEP:
                    return of.stepOf(c, value);
                case PUT_JUDGE:
                    return of.judge[c];
                case PUT_YEAR:
                    return of.year[c];
                case PUT_GIVEN:
                    return of.given[c];
                case PUT_WEIGHT:
                    return of.weight[c];
                default:
                    return value;
            }
        }

        private static int join(int sign, int left, int right) {
            switch (sign) {
                case DO_ADD:
                    return left + right;
                case DO_TAKE:
                    return left - right;
                case DO_TIMES:
                    return left * right;
                default:
                    return holds(sign, left, right) ? 1 : 0;
            }
        }

        private static boolean holds(int sign, int left, int right) {
            switch (sign) {
                case DO_LESS:
                    return left < right;
                case DO_MORE:
                    return left > right;
                case DO_SAME:
                    return left == right;
                case DO_AND:
                    return left != 0 && right != 0;
                default:
                    return left != 0 || right != 0;
            }
        }
    }

    /** Which case is over which, as sets in bits, and what follows for those that clash. */
    private static final class Order {
        /** Of each case those that it is over. */
        final int[] under = new int[MOST_CASES];
        /** Of each case those that are over it. */
        final int[] above = new int[MOST_CASES];

        void fill(Book b, int byMarks) {
            Arrays.fill(under, 0);
            Arrays.fill(above, 0);
            for (int i = 0; i < b.cases; i++) {
                for (int j = 0; j < b.cases; j++) {
                    if (b.noLess(i, j, byMarks)) {
                        under[i] |= 1 << j;
                        above[j] |= 1 << i;
                    }
                }
            }
        }

        /** Adds all told lines; the first one against those ahead and the marks, or NONE. */
        int tellAll(Book b) {
            int against = NONE;
            for (int t = 0; t < b.tolds; t++) {
                int i = b.toldOver[t];
                int j = b.toldUnder[t];
                if (against < 0 && isOver(j, i)) {
                    against = t;
                }
                tell(above[i], under[j]);
            }
            return against;
        }

        private void tell(int upper, int lower) {
            for (int c = 0; c < MOST_CASES; c++) {
                if ((upper >> c & 1) != 0) {
                    under[c] |= lower;
                }
                if ((lower >> c & 1) != 0) {
                    above[c] |= upper;
                }
            }
        }

        boolean isOver(int i, int j) {
            return (under[i] >> j & 1) != 0;
        }

        /** By how much two cases clash, 0 if they do not. */
        private int gap(Book b, int i, int j) {
            int more = b.given[i] - b.given[j];
            if (more < 0) {
                return isOver(i, j) ? -more : 0;
            }
            return isOver(j, i) ? more : 0;
        }

        int foes(Book b, int i) {
            int set = 0;
            for (int j = 0; j < b.cases; j++) {
                if (gap(b, i, j) > 0) {
                    set |= 1 << j;
                }
            }
            return set;
        }

        int gapsOf(Book b, int i) {
            int together = 0;
            for (int j = 0; j < b.cases; j++) {
                together += gap(b, i, j);
            }
            return together;
        }

        int pairs(Book b, boolean inOneYear) {
            int number = 0;
            for (int i = 0; i < b.cases; i++) {
                for (int j = 0; j < i; j++) {
                    boolean asked = !inOneYear || b.year[i] == b.year[j];
                    number += asked && gap(b, i, j) > 0 ? 1 : 0;
                }
            }
            return number;
        }

        int gapsTogether(Book b) {
            int twice = 0;
            for (int i = 0; i < b.cases; i++) {
                twice += gapsOf(b, i);
            }
            return twice / 2;
        }

        int greatestGap(Book b) {
            int greatest = 0;
            for (int i = 0; i < b.cases; i++) {
                for (int j = 0; j < i; j++) {
                    greatest = Math.max(greatest, gap(b, i, j));
                }
            }
            return greatest;
        }

        int oddestOf(Book b) {
            int odd = NONE;
            int most = 0;
            int gaps = 0;
            for (int i = 0; i < b.cases; i++) {
                int number = Integer.bitCount(foes(b, i));
                int together = gapsOf(b, i);
                if (number > most || number == most && together > gaps) {
                    odd = i;
                    most = number;
                    gaps = together;
                }
            }
            return odd;
        }

        int besideOf(Book b, int i) {
            int beside = NONE;
            int greatest = 0;
            for (int j = 0; j < b.cases; j++) {
                if (gap(b, i, j) > greatest) {
                    greatest = gap(b, i, j);
                    beside = j;
                }
            }
            return beside;
        }

        /** Twice what is kept by the greatest gap. */
        int twiceMiddle(Book b, int i) {
            int most = b.given[i];
            int least = b.given[i];
            for (int j = 0; j < b.cases; j++) {
                if (isOver(i, j)) {
                    most = Math.max(most, b.given[j]);
                }
                if (isOver(j, i)) {
                    least = Math.min(least, b.given[j]);
                }
            }
            return most + least;
        }

        int twiceGreatest(Book b) {
            int greatest = 0;
            for (int i = 0; i < b.cases; i++) {
                greatest = Math.max(greatest, Math.abs(twiceMiddle(b, i) - 2 * b.given[i]));
            }
            return greatest;
        }

        int underNew(Book b) {
            int set = 0;
            for (int c = 0; c < b.cases; c++) {
                if (b.noLess(NEW_CASE, c, b.counted)) {
                    set |= under[c];
                }
            }
            return set;
        }

        int overNew(Book b) {
            int set = 0;
            for (int c = 0; c < b.cases; c++) {
                if (b.noLess(c, NEW_CASE, b.counted)) {
                    set |= above[c];
                }
            }
            return set;
        }
    }

    /**
     * Finds those of a set, with all of it that are over them, that are worth most together, and of
     * such the fewest. What is worth something pays for what is over it and is worth less than
     * nothing, as much as can be; those that can't be paid off are the choice.
     */
    private static final class Cut {
        /** An upper bound for the payments that go round by others; there are far fewer. */
        private static final int MOST_ROUNDS = 100000;

        /** What each case is worth: set ahead of each choice. */
        final int[] worth = new int[MOST_CASES];
        private final int[] left = new int[MOST_CASES];
        private final int[] paid = new int[MOST_CASES * MOST_CASES];
        private final int[] cameFrom = new int[MOST_CASES];
        private final int[] queue = new int[MOST_CASES];
        private int[] above;
        private int payers;
        private int owers;
        private int reached;

        int choose(int set, int[] over) {
            above = over;
            prepare(set);
            if (payers == 0) {
                return 0;
            }
            int ower = findOpenOwer();
            for (int round = 0; round < MOST_ROUNDS && ower >= 0; round++) {
                payAround(ower);
                ower = findOpenOwer();
            }
            int choice = 0;
            for (int c = 0; c < MOST_CASES; c++) {
                if ((reached >> c & payers >> c & 1) != 0) {
                    choice |= above[c] & set;
                }
            }
            return choice;
        }

        private void prepare(int set) {
            payers = 0;
            owers = 0;
            for (int c = 0; c < MOST_CASES; c++) {
                if ((set >> c & 1) != 0) {
                    left[c] = Math.abs(worth[c]);
                    payers |= worth[c] > 0 ? 1 << c : 0;
                    owers |= worth[c] < 0 ? 1 << c : 0;
                }
            }
            Arrays.fill(paid, 0);
        }

        /**
         * Looks, nearest first, for one that still owes and that a payer with something left
         * reaches: over it, or by taking the place of another payer. NONE: all that were reached
         * are in reached.
         */
        private int findOpenOwer() {
            int size = startQueue();
            for (int i = 0; i < size && i < MOST_CASES; i++) {
                int p = queue[i];
                int open = above[p] & owers & ~reached;
                for (int o = 0; open != 0 && o < MOST_CASES; o++) {
                    if ((open >> o & 1) != 0) {
                        cameFrom[o] = p;
                        reached |= 1 << o;
                        if (left[o] > 0) {
                            return o;
                        }
                        size = queuePayersOf(o, size);
                    }
                }
            }
            return NONE;
        }

        private int startQueue() {
            int size = 0;
            reached = 0;
            for (int p = 0; p < MOST_CASES; p++) {
                if ((payers >> p & 1) != 0 && left[p] > 0) {
                    queue[size] = p;
                    size++;
                    cameFrom[p] = NONE;
                    reached |= 1 << p;
                }
            }
            return size;
        }

        private int queuePayersOf(int o, int size) {
            int grown = size;
            for (int p = 0; p < MOST_CASES; p++) {
                boolean fresh = (payers >> p & 1) != 0 && (reached >> p & 1) == 0;
                if (fresh && paid[p * MOST_CASES + o] > 0 && grown < MOST_CASES) {
                    queue[grown] = p;
                    grown++;
                    cameFrom[p] = o;
                    reached |= 1 << p;
                }
            }
            return grown;
        }

        private void payAround(int ower) {
            int much = left[ower];
            int p = cameFrom[ower];
            for (int i = 0; i < MOST_CASES && cameFrom[p] >= 0; i++) {
                much = Math.min(much, paid[p * MOST_CASES + cameFrom[p]]);
                p = cameFrom[cameFrom[p]];
            }
            much = Math.min(much, left[p]);
            left[p] -= much;
            left[ower] -= much;
            int o = ower;
            for (int i = 0; i < MOST_CASES && o >= 0; i++) {
                p = cameFrom[o];
                paid[p * MOST_CASES + o] += much;
                o = cameFrom[p];
                if (o >= 0) {
                    paid[p * MOST_CASES + o] -= much;
                }
            }
        }
    }

    /** The months that keep the order and lie nearest to those given, by squares and by gaps. */
    private static final class Nearest {
        private final Cut cut;
        final int[] block = new int[MOST_CASES];
        final long[] up = new long[MOST_CASES];
        final long[] low = new long[MOST_CASES];
        final Fraction total = new Fraction();
        final int[] months = new int[MOST_CASES];
        /** Of each case weight * the difference to what is kept by gaps. */
        final int[] share = new int[MOST_CASES];
        int gapsTotal;
        private final int[] open = new int[MOST_CASES + 1];
        private final Fraction mean = new Fraction();

        Nearest(Cut shared) {
            cut = shared;
        }

        void fitSquares(Book b, int[] above, int set) {
            total.set(0, 1);
            open[0] = set;
            int size = set == 0 ? 0 : 1;
            // 16 cases part into 16 blocks at most: that takes 31 sets.
            for (int i = 0; i < 2 * MOST_CASES && size > 0; i++) {
                int some = open[size - 1];
                int upper = upperPart(b, above, some);
                if (upper == 0) {
                    seal(b, some);
                    size--;
                } else {
                    open[size - 1] = some & ~upper;
                    open[size] = upper;
                    size++;
                }
            }
        }

        private int upperPart(Book b, int[] above, int set) {
            int weights = 0;
            int sum = 0;
            for (int c = 0; c < b.cases; c++) {
                if ((set >> c & 1) != 0) {
                    weights += b.weight[c];
                    sum += b.weight[c] * b.given[c];
                }
            }
            // Times the weights together: so the worth of a case stays a whole number.
            for (int c = 0; c < b.cases; c++) {
                cut.worth[c] = b.weight[c] * (b.given[c] * weights - sum);
            }
            return cut.choose(set, above);
        }

        private void seal(Book b, int set) {
            long weights = 0;
            long sum = 0;
            long squares = 0;
            for (int c = 0; c < b.cases; c++) {
                if ((set >> c & 1) != 0) {
                    weights += b.weight[c];
                    sum += b.weight[c] * b.given[c];
                    squares += b.weight[c] * b.given[c] * b.given[c];
                }
            }
            mean.set(sum, weights);
            for (int c = 0; c < b.cases; c++) {
                if ((set >> c & 1) != 0) {
                    block[c] = set;
                    up[c] = mean.up;
                    low[c] = mean.low;
                }
            }
            total.add(squares * weights - sum * sum, weights);
        }

        long partOf(int c, int which) {
            return which == 0 ? up[c] : low[c];
        }

        /** Whether case c is kept lower (or higher) by squares than case d. */
        boolean isFarther(int c, int d, boolean lower) {
            long more = up[c] * low[d] - up[d] * low[c];
            return lower ? more < 0 : more > 0;
        }

        /**
         * For each number of months, from the least on: those that are to be kept above it are the
         * choice in which being given more counts for, and being given no more against.
         */
        void fitGaps(Book b, int[] above) {
            int rest = b.allCases();
            int level = NONE;
            for (int i = 0; i < MOST_CASES && rest != 0; i++) {
                level = nextLevel(b, rest, level);
                for (int c = 0; c < b.cases; c++) {
                    cut.worth[c] = b.given[c] > level ? b.weight[c] : -b.weight[c];
                }
                int higher = cut.choose(rest, above);
                for (int c = 0; c < b.cases; c++) {
                    if (((rest & ~higher) >> c & 1) != 0) {
                        months[c] = level;
                    }
                }
                rest = higher;
            }
            shareOut(b);
        }

        private static int nextLevel(Book b, int rest, int level) {
            int next = MOST_GIVEN;
            for (int c = 0; c < b.cases; c++) {
                if ((rest >> c & 1) != 0 && b.given[c] > level) {
                    next = Math.min(next, b.given[c]);
                }
            }
            return next;
        }

        private void shareOut(Book b) {
            gapsTotal = 0;
            for (int c = 0; c < b.cases; c++) {
                share[c] = b.weight[c] * Math.abs(b.given[c] - months[c]);
                gapsTotal += share[c];
            }
        }
    }

    /** Counts choices of cases: those without which none clash, and those that share as much. */
    private static final class Choices {
        int fewest;
        int leastCover;
        int covers;
        private final int[] foes = new int[MOST_CASES];
        private final int[] shares = new int[MOST_CASES];
        private final int[] sums = new int[MOST_CASES + 1];
        private int size;

        void cover(Book b, Order o) {
            for (int c = 0; c < b.cases; c++) {
                foes[c] = o.foes(b, c);
            }
            fewest = MOST_CASES + 1;
            leastCover = 0;
            covers = 0;
            search(b.allCases(), 0, 0);
        }

        /**
         * Of the case with most foes among the rest: it is taken, or all its foes are. Each way ends
         * with another set, and no set of the fewest is missed. A case goes from the rest at each
         * level, so it never goes deeper than there are cases.
         */
        private void search(int rest, int taken, int depth) {
            int number = Integer.bitCount(taken);
            if (number > fewest || depth > MOST_CASES) {
                return;
            }
            int odd = mostFoes(rest);
            if (odd < 0) {
                note(taken, number);
                return;
            }
            int without = rest & ~(1 << odd);
            search(without, taken | 1 << odd, depth + 1);
            search(without & ~foes[odd], taken | foes[odd] & rest, depth + 1);
        }

        private int mostFoes(int rest) {
            int odd = NONE;
            int most = 0;
            for (int c = 0; c < MOST_CASES; c++) {
                if ((rest >> c & 1) != 0 && Integer.bitCount(foes[c] & rest) > most) {
                    most = Integer.bitCount(foes[c] & rest);
                    odd = c;
                }
            }
            return odd;
        }

        private void note(int taken, int number) {
            if (number < fewest) {
                fewest = number;
                leastCover = taken;
                covers = 0;
            }
            covers++;
            leastCover = Math.min(leastCover, taken);
        }

        /** How many choices of some of the first cases share so much together, or more. */
        int draws(int[] share, int cases, int some, int much) {
            size = cases;
            for (int c = 0; c < cases; c++) {
                int at = c;
                for (; at > 0 && shares[at - 1] < share[c]; at--) {
                    shares[at] = shares[at - 1];
                }
                shares[at] = share[c];
            }
            for (int c = 0; c < cases; c++) {
                sums[c + 1] = sums[c] + shares[c];
            }
            return drawsFrom(0, some, much);
        }

        /** From falling shares: where the most or the least that can come decides, no more is tried. */
        private int drawsFrom(int from, int some, int much) {
            int rest = size - from;
            if (some < 0 || some > rest || sums[from + some] - sums[from] < much) {
                return 0;
            }
            if (sums[size] - sums[size - some] >= much) {
                return choose(rest, some);
            }
            return drawsFrom(from + 1, some - 1, much - shares[from]) + drawsFrom(from + 1, some, much);
        }

        static int choose(int all, int some) {
            int ways = 1;
            for (int i = 1; i <= some; i++) {
                ways = ways * (all - some + i) / i;
            }
            return ways;
        }
    }

    /**
     * One mark in few steps. Steps with cases are pooled until their means rise; in the best runs no
     * such pool is torn, so runs are made of whole pools, and more of them are always nearer.
     */
    private static final class Parting {
        private static final int WIDTH = MOST_RUNS + 1;

        final Fraction total = new Fraction();
        int starts;
        private int pools;
        private final int[] weights = new int[WIDTH];
        private final int[] sums = new int[WIDTH];
        /** The step at which a pool begins, as a bit; 0 for the first one. */
        private final int[] begin = new int[WIDTH];
        private final long[] gainUp = new long[WIDTH * WIDTH];
        private final long[] gainLow = new long[WIDTH * WIDTH];
        private final int[] bits = new int[WIDTH * WIDTH];
        private final Fraction gain = new Fraction();

        void reckon(Book b, int mark, int most) {
            pool(b, mark);
            int number = Math.min(most, pools);
            total.set(squares(b), 1);
            starts = 0;
            if (number == 0) {
                return;
            }
            oneRun();
            for (int k = 2; k <= number; k++) {
                for (int j = k; j <= pools; j++) {
                    lastRun(k, j);
                }
            }
            int at = number * WIDTH + pools;
            total.add(-gainUp[at], gainLow[at]);
            starts = bits[at];
        }

        private static long squares(Book b) {
            long together = 0;
            for (int c = 0; c < b.cases; c++) {
                together += b.weight[c] * b.given[c] * b.given[c];
            }
            return together;
        }

        private void pool(Book b, int mark) {
            pools = 0;
            int behind = 0;
            for (int step = 0; step <= MOST_STEP; step++) {
                int weight = 0;
                int sum = 0;
                for (int c = 0; c < b.cases; c++) {
                    if (b.stepOf(c, mark) == step) {
                        weight += b.weight[c];
                        sum += b.weight[c] * b.given[c];
                    }
                }
                if (weight > 0) {
                    weights[pools] = weight;
                    sums[pools] = sum;
                    begin[pools] = behind;
                    pools++;
                    joinFalling();
                    behind = 1 << step + 1;
                }
            }
        }

        private void joinFalling() {
            for (int i = 0; i < MOST_RUNS && pools > 1; i++) {
                int last = pools - 1;
                if (sums[last - 1] * weights[last] < sums[last] * weights[last - 1]) {
                    return;
                }
                sums[last - 1] += sums[last];
                weights[last - 1] += weights[last];
                pools--;
            }
        }

        private void oneRun() {
            for (int j = 1; j <= pools; j++) {
                gain.set(0, 1);
                addRun(0, j);
                store(WIDTH + j, 0);
            }
        }

        /** Of k runs over the first j pools: where the last one is best begun. */
        private void lastRun(int k, int j) {
            int at = k * WIDTH + j;
            for (int i = k - 1; i < j; i++) {
                int ahead = (k - 1) * WIDTH + i;
                gain.up = gainUp[ahead];
                gain.low = gainLow[ahead];
                addRun(i, j);
                // Of like ones the first stays: what begins later has the greater number.
                if (i == k - 1 || Fraction.compare(gain.up, gain.low, gainUp[at], gainLow[at]) > 0) {
                    store(at, bits[ahead] | begin[i]);
                }
            }
        }

        private void store(int at, int begun) {
            gainUp[at] = gain.up;
            gainLow[at] = gain.low;
            bits[at] = begun;
        }

        /** What a run of pools takes off the cost: the square of its sum by its weight. */
        private void addRun(int from, int to) {
            long sum = 0;
            long weight = 0;
            for (int i = from; i < to; i++) {
                sum += sums[i];
                weight += weights[i];
            }
            gain.add(sum * sum, weight);
        }
    }

    /** A fraction in lowest terms, the lower part above 0. */
    private static final class Fraction {
        long up;
        long low = 1;

        void set(long upper, long lower) {
            long by = common(Math.abs(upper), lower);
            if (by > 0) {
                up = upper / by;
                low = lower / by;
            }
        }

        /** The lower parts come of at most 64 weights in blocks: what they share keeps this far from wrapping. */
        void add(long upper, long lower) {
            long by = common(low, lower);
            if (by > 0) {
                set(up * (lower / by) + upper * (low / by), low / by * lower);
            }
        }

        long part(int which) {
            return which == 0 ? up : low;
        }

        private static long common(long a, long b) {
            long x = a;
            long y = b;
            for (int i = 0; i < 100 && y != 0; i++) {
                long rest = x % y;
                x = y;
                y = rest;
            }
            return x;
        }

        /** Of two that are not below 0; whole parts first, as the products of all would wrap. */
        static int compare(long up, long low, long otherUp, long otherLow) {
            if (low <= 0 || otherLow <= 0) {
                return 0;
            }
            long whole = up / low;
            long otherWhole = otherUp / otherLow;
            if (whole != otherWhole) {
                return Long.compare(whole, otherWhole);
            }
            return Long.compare(up % low * otherLow, otherUp % otherLow * low);
        }
    }

    /** The acts that are kept, the latest last; those behind done were taken back. */
    private static final class Acts {
        static final int COME = 0;
        static final int COUNT = 1;
        static final int GIVE = 2;
        private static final int MOST_ACTS = 60;

        int done;
        private int size;
        private final int[] kinds = new int[MOST_ACTS];
        private final int[] which = new int[MOST_ACTS];
        private final int[] before = new int[MOST_ACTS];
        private final int[] after = new int[MOST_ACTS];

        void forget() {
            done = 0;
            size = 0;
        }

        void add(int kind, int number, int was, int is) {
            if (done == MOST_ACTS) {
                dropFirst(kinds);
                dropFirst(which);
                dropFirst(before);
                dropFirst(after);
                done--;
            }
            kinds[done] = kind;
            which[done] = number;
            before[done] = was;
            after[done] = is;
            done++;
            size = done;
        }

        private static void dropFirst(int[] row) {
            System.arraycopy(row, 1, row, 0, MOST_ACTS - 1);
        }

        boolean takeBack(Book b) {
            if (done == 0) {
                return false;
            }
            done--;
            if (kinds[done] == COME) {
                b.cases = which[done];
            } else {
                carryOut(b, kinds[done], which[done], before[done]);
            }
            return true;
        }

        boolean doAgain(Book b) {
            if (done == size) {
                return false;
            }
            carryOut(b, kinds[done], which[done], after[done]);
            done++;
            return true;
        }

        /** The row of a case that came stays as it was until another one comes: so it can come again. */
        static void carryOut(Book b, int kind, int number, int value) {
            switch (kind) {
                case COME:
                    b.cases = number + 1;
                    break;
                case COUNT:
                    b.counted = b.counted & ~(1 << number) | value << number;
                    break;
                default:
                    b.given[number] = value;
                    break;
            }
        }
    }
}
