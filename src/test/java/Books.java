import java.util.ArrayList;
import java.util.List;
import java.util.Random;

/** Makes texts by chance (the same for the same seed): good ones, and ones with something spoilt. */
final class Books {
    private static final String[] NAMES = {"a", "b", "c", "harm", "gain", "x", "yy", "zzz", "eightlet", "m",
        "n", "o", "p", "q", "r", "s", "t", "u", "v", "w", "k", "ka", "kb", "kc", "kd"};
    private static final String[] SPOILS = {"mark", "to", "never", "case", "judge", "in", "given", "weight",
        "told", "over", "when", "least", "most", "or", "and", "not", ";", "0", "1", "5", "12", "99", "100",
        "240", "241", "9999", "12345", "3x", "ninelette", "#", "(", ")", "A", "<", "=", "+", "*", "-", "a",
        "b", "harm", "foo", "\n", "\t", ""};

    private Books() {
    }

    static String glue(Random r, List<String> tokens) {
        StringBuilder s = new StringBuilder();
        boolean tight = r.nextBoolean();
        for (String t : tokens) {
            if (s.length() > 0) {
                char last = s.charAt(s.length() - 1);
                boolean letters = last >= 'a' && last <= 'z';
                boolean digit = last >= '0' && last <= '9';
                boolean word = !t.isEmpty() && Character.isLetterOrDigit(t.charAt(0));
                boolean must = word && (digit || letters && !Character.isDigit(t.charAt(0)));
                if (must || !tight) {
                    s.append(r.nextInt(9) == 0 ? "\n" : " ");
                }
            }
            s.append(t);
        }
        return s.toString();
    }

    static List<String> bookTokens(Random r, int mostCases) {
        List<String> t = new ArrayList<>();
        List<String> names = new ArrayList<>(List.of(NAMES));
        java.util.Collections.shuffle(names, r);
        List<String> marks = new ArrayList<>();
        List<Integer> tops = new ArrayList<>();
        List<String> cases = new ArrayList<>();
        int wantMarks = r.nextInt(4) == 0 ? r.nextInt(7) : 1 + r.nextInt(3);
        int wantCases = mostCases == 0 ? 0 : r.nextInt(mostCases + 1);
        int span = r.nextInt(3) == 0 ? 4 : 241;
        while (marks.size() < wantMarks || cases.size() < wantCases) {
            boolean mark = marks.size() < wantMarks && (cases.size() == wantCases || r.nextInt(10) > 0);
            String name = names.remove(0);
            if (mark) {
                int top = r.nextInt(3) == 0 ? 11 : 1 + r.nextInt(4);
                t.addAll(List.of("mark", name, "to", "" + top, ";"));
                marks.add(name);
                tops.add(top);
                if (r.nextInt(5) == 0) {
                    t.addAll(List.of("never", name, ";"));
                }
            } else {
                t.addAll(List.of("case", name, "judge", "" + r.nextInt(r.nextInt(4) == 0 ? 10 : 3), "in",
                    "" + r.nextInt(r.nextInt(4) == 0 ? 100 : 4), "given", "" + r.nextInt(span), "weight",
                    "" + (1 + r.nextInt(4))));
                for (int m = 0; m < marks.size(); m++) {
                    if (r.nextInt(3) > 0) {
                        t.addAll(List.of(marks.get(m), "" + r.nextInt(tops.get(m) + 1)));
                    }
                }
                t.add(";");
                cases.add(name);
                while (cases.size() > 1 && r.nextInt(6) == 0) {
                    t.addAll(List.of("told", cases.get(r.nextInt(cases.size())), "over",
                        cases.get(r.nextInt(cases.size())), ";"));
                }
            }
        }
        return t;
    }

    static List<String> lawTokens(Random r, List<String> names) {
        List<String> t = new ArrayList<>();
        int lines = r.nextInt(5);
        for (int i = 0; i < lines; i++) {
            t.add("when");
            expression(r, names, t, 0, r.nextInt(3));
            int least = r.nextInt(241);
            t.addAll(List.of("least", "" + least, "most", "" + (least + r.nextInt(241 - least)), ";"));
        }
        return t;
    }

    private static void expression(Random r, List<String> names, List<String> t, int level, int deep) {
        String[][] signs = {{"or"}, {"and"}, {"<", ">", "="}, {"+", "-"}, {"*"}};
        if (level == 5) {
            unit(r, names, t, deep);
            return;
        }
        if (level == 2 && r.nextInt(5) == 0) {
            t.add("not");
            expression(r, names, t, 2, deep);
            return;
        }
        expression(r, names, t, level + 1, deep);
        for (int i = 0; r.nextInt(4) == 0 && (level != 2 || i == 0); i++) {
            t.add(signs[level][r.nextInt(signs[level].length)]);
            expression(r, names, t, level + 1, deep);
        }
    }

    private static void unit(Random r, List<String> names, List<String> t, int deep) {
        int kind = r.nextInt(8);
        if (kind == 0 && deep > 0) {
            t.add("(");
            expression(r, names, t, 0, deep - 1);
            t.add(")");
        } else if (kind < 3 && !names.isEmpty()) {
            t.add(names.get(r.nextInt(names.size())));
        } else if (kind < 6) {
            t.add(List.of("judge", "in", "given", "weight").get(r.nextInt(4)));
        } else {
            t.add("" + (r.nextInt(4) == 0 ? r.nextInt(10000) : r.nextInt(6)));
        }
    }

    static List<String> markNames(List<String> bookTokens) {
        List<String> names = new ArrayList<>();
        for (int i = 0; i + 1 < bookTokens.size(); i++) {
            if (bookTokens.get(i).equals("mark")) {
                names.add(bookTokens.get(i + 1));
            }
        }
        return names;
    }

    /** Takes a token out, puts another in, doubles one, or cuts the end off. */
    static void spoil(Random r, List<String> t) {
        int at = t.isEmpty() ? 0 : r.nextInt(t.size());
        String other = r.nextBoolean() || t.isEmpty() ? SPOILS[r.nextInt(SPOILS.length)] : t.get(r.nextInt(t.size()));
        switch (t.isEmpty() ? 0 : r.nextInt(5)) {
            case 0 -> t.add(at, other);
            case 1, 2 -> t.set(at, other);
            case 3 -> t.remove(at);
            default -> t.subList(at, t.size()).clear();
        }
    }
}
