import java.util.ArrayList;
import java.util.HashSet;
import java.util.List;
import java.util.Set;

/** The texts of the document once more: all tokens first, faults as exceptions, laws as trees. */
final class ModelText {
    static final Set<String> WORDS = Set.of("mark", "to", "never", "case", "judge", "in", "given", "weight",
        "told", "over", "when", "least", "most", "or", "and", "not");

    interface Expr {
        int of(Model.Case c);
    }

    static final class Law {
        Expr e;
        int least;
        int most;
    }

    static final class BookText {
        List<String> markNames = new ArrayList<>();
        List<Integer> tops = new ArrayList<>();
        List<String> caseNames = new ArrayList<>();
        /** over, under, place of the second name */
        List<int[]> told = new ArrayList<>();
        Model.State state = new Model.State();
        int lines;
    }

    private record Token(String text, int place, boolean good) {
        boolean isNumber() {
            return good && !text.isEmpty() && Character.isDigit(text.charAt(0));
        }

        boolean isName() {
            return good && !text.isEmpty() && text.charAt(0) >= 'a' && text.charAt(0) <= 'z' && !WORDS.contains(text);
        }
    }

    private final List<Token> tokens = new ArrayList<>();
    private int at;
    private int units;
    private List<String> marks;

    private ModelText(String text, String signs) {
        int i = 0;
        while (i < text.length()) {
            char c = text.charAt(i);
            if (c == ' ' || c == '\n') {
                i++;
                continue;
            }
            int j = i + 1;
            boolean good = signs.indexOf(c) >= 0;
            if (c >= 'a' && c <= 'z') {
                while (j < text.length() && text.charAt(j) >= 'a' && text.charAt(j) <= 'z') {
                    j++;
                }
                good = j - i <= 8;
            } else if (c >= '0' && c <= '9') {
                while (j < text.length() && text.charAt(j) >= '0' && text.charAt(j) <= '9') {
                    j++;
                }
                good = j - i <= 4 && !(j < text.length() && text.charAt(j) >= 'a' && text.charAt(j) <= 'z');
            }
            tokens.add(new Token(text.substring(i, j), i, good));
            i = j;
        }
        tokens.add(new Token("", text.length(), true));
    }

    private Token here() {
        return tokens.get(at);
    }

    private Model.Fault wrong(int kind) {
        return new Model.Fault(here().good ? kind : 1, here().place);
    }

    private boolean take(String word) {
        if (here().good && here().text.equals(word)) {
            at++;
            return true;
        }
        return false;
    }

    private void must(String word) {
        if (!take(word)) {
            throw wrong(2);
        }
    }

    private int number(int least, int most) {
        if (!here().isNumber()) {
            throw wrong(2);
        }
        int n = Integer.parseInt(here().text);
        if (n < least || n > most) {
            throw wrong(4);
        }
        at++;
        return n;
    }

    private String name() {
        if (!here().isName()) {
            throw wrong(2);
        }
        return here().text;
    }

    static BookText readBook(String text) {
        ModelText t = new ModelText(text, ";");
        BookText b = new BookText();
        while (t.at < t.tokens.size() - 1) {
            t.bookLine(b);
            b.lines++;
        }
        return b;
    }

    private String newName(BookText b) {
        String n = name();
        if (b.markNames.contains(n) || b.caseNames.contains(n)) {
            throw wrong(3);
        }
        at++;
        return n;
    }

    private int known(List<String> names) {
        int n = names.indexOf(name());
        if (n < 0) {
            throw wrong(5);
        }
        return n;
    }

    private void bookLine(BookText b) {
        String word = here().good ? here().text : "";
        boolean full = word.equals("mark") && b.markNames.size() == 6
            || word.equals("case") && b.caseNames.size() == 16 || word.equals("told") && b.told.size() == 20;
        if (full || !List.of("mark", "never", "case", "told").contains(word)) {
            throw wrong(2);
        }
        at++;
        switch (word) {
            case "mark" -> {
                String n = newName(b);
                must("to");
                b.tops.add(number(1, 11));
                b.markNames.add(n);
                b.state.counts[b.markNames.size() - 1] = true;
            }
            case "never" -> {
                int m = known(b.markNames);
                if (!b.state.counts[m]) {
                    throw wrong(3);
                }
                b.state.counts[m] = false;
                at++;
            }
            case "case" -> readCase(b);
            default -> {
                int over = known(b.caseNames);
                at++;
                must("over");
                int under = known(b.caseNames);
                b.told.add(new int[] {over, under, here().place});
                at++;
            }
        }
        must(";");
    }

    private void readCase(BookText b) {
        String n = newName(b);
        Model.Case c = new Model.Case();
        must("judge");
        c.judge = number(0, 9);
        must("in");
        c.year = number(0, 99);
        must("given");
        c.given = number(0, 240);
        must("weight");
        c.weight = number(1, 4);
        Set<Integer> told = new HashSet<>();
        while (!(here().good && here().text.equals(";"))) {
            int m = known(b.markNames);
            if (!told.add(m)) {
                throw wrong(3);
            }
            at++;
            c.steps[m] = number(0, b.tops.get(m));
        }
        b.caseNames.add(n);
        b.state.cases.add(c);
    }

    static List<Law> readLaws(String text, List<String> marks) {
        ModelText t = new ModelText(text, ";()<>=+-*");
        t.marks = marks;
        List<Law> laws = new ArrayList<>();
        while (t.at < t.tokens.size() - 1) {
            if (laws.size() == 8) {
                throw t.wrong(2);
            }
            t.must("when");
            Law l = new Law();
            l.e = t.level(0, 0);
            t.must("least");
            l.least = t.number(0, 240);
            t.must("most");
            l.most = t.number(l.least, 240);
            t.must(";");
            laws.add(l);
        }
        return laws;
    }

    private static final String[][] LEVELS = {{"or"}, {"and"}, {"<", ">", "="}, {"+", "-"}, {"*"}};

    private Expr level(int level, int within) {
        if (level == 5) {
            return unit(within);
        }
        if (level == 2 && here().good && here().text.equals("not")) {
            if (within >= 7) {
                throw wrong(2);
            }
            at++;
            Expr inner = level(2, within + 1);
            return c -> inner.of(c) == 0 ? 1 : 0;
        }
        Expr left = level(level + 1, within);
        boolean again = true;
        while (again) {
            again = false;
            for (String sign : LEVELS[level]) {
                if (take(sign)) {
                    left = join(sign, left, level(level + 1, within));
                    again = level != 2;
                    break;
                }
            }
        }
        return left;
    }

    private static Expr join(String sign, Expr a, Expr b) {
        return switch (sign) {
            case "or" -> c -> a.of(c) != 0 | b.of(c) != 0 ? 1 : 0;
            case "and" -> c -> a.of(c) != 0 & b.of(c) != 0 ? 1 : 0;
            case "<" -> c -> a.of(c) < b.of(c) ? 1 : 0;
            case ">" -> c -> a.of(c) > b.of(c) ? 1 : 0;
            case "=" -> c -> a.of(c) == b.of(c) ? 1 : 0;
            case "+" -> c -> a.of(c) + b.of(c);
            case "-" -> c -> a.of(c) - b.of(c);
            default -> c -> a.of(c) * b.of(c);
        };
    }

    private Expr unit(int within) {
        if (units == 50) {
            throw wrong(2);
        }
        units++;
        Token t = here();
        if (t.good && t.text.equals("(")) {
            if (within >= 7) {
                throw wrong(2);
            }
            at++;
            Expr e = level(0, within + 1);
            must(")");
            return e;
        }
        if (t.isNumber()) {
            at++;
            int n = Integer.parseInt(t.text);
            return c -> n;
        }
        if (t.isName()) {
            int m = known(marks);
            at++;
            return c -> c.steps[m];
        }
        Expr fact = !t.good ? null : switch (t.text) {
            case "judge" -> c -> c.judge;
            case "in" -> c -> c.year;
            case "given" -> c -> c.given;
            case "weight" -> c -> c.weight;
            default -> null;
        };
        if (fact == null) {
            throw wrong(2);
        }
        at++;
        return fact;
    }
}
