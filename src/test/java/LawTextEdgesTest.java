/** Terms 7 sentence by sentence: laws, their limits and faults, and what an e is worth. */
public final class LawTextEdgesTest {
    private static final Checks T = new Checks("LawTextEdgesTest");
    private static final String BOOK = "mark harm to 11;mark gain to 3;never gain;"
        + "case a judge 9 in 99 given 240 weight 4 harm 11 gain 3;case b judge 0 in 0 given 0 weight 1;";
    private static final String LAW = "when 1 least 7 most 9;";
    private static final String LINE = "when 1 least 0 most 0;";
    private static final String ENDS = " least 0 most 0;";

    private static String shown(String text) {
        return text.length() > 90 ? text.length() + " bytes .. " + text.substring(text.length() - 60) : text;
    }

    private static LikeYears withLaw() {
        LikeYears x = Texts.withBook(BOOK);
        Texts.feed(x, LAW);
        x.laws();
        return x;
    }

    private static LikeYears good(String text, int lines) {
        LikeYears x = withLaw();
        Texts.feed(x, text);
        T.same("laws " + shown(text), x.laws(), lines);
        T.same("fault of " + shown(text), x.fault(0), 0);
        T.same("place of " + shown(text), x.fault(1), -1);
        T.same("tape behind " + shown(text), x.about(4), 0);
        T.same("lines of " + shown(text), x.about(5), lines);
        return x;
    }

    private static void fault(String text, int fault, int place) {
        LikeYears x = withLaw();
        Texts.feed(x, text);
        T.same("laws " + shown(text), x.laws(), -1);
        T.same("fault of " + shown(text), x.fault(0), fault);
        T.same("place of " + shown(text), x.fault(1), place);
        T.same("tape behind " + shown(text), x.about(4), 0);
        T.same("lines stay behind " + shown(text), x.about(5), 1);
        T.same("the law stays behind " + shown(text), x.moved(1), 231 + 7);
    }

    /** What an e is worth for a case: a line that is not 0 if it is not that does not hold, one if it is does. */
    private static void worth(String e, int c, int want) {
        StringBuilder n = new StringBuilder();
        long much = Math.abs((long) want);
        n.append(want < 0 ? "0-" : "").append("((").append(much / 99980001).append("*9999+");
        n.append(much / 9999 % 9999).append(")*9999+").append(much % 9999).append(")");
        LikeYears x = Texts.withBook(BOOK);
        Texts.feed(x, "when not (" + e + ")=" + n + " least 1 most 1;when 1 least 3 most 3;");
        T.same("laws of " + e, x.laws(), 2);
        T.same(e + " for case " + c + " against " + want, x.lawOf(c), 1);
    }

    private static void bytes() {
        String line = "when 1 least 3 most 3;";
        LikeYears x = good(" ".repeat(500 - line.length()) + line, 1);
        T.same("the last of 500 bytes is read", x.moved(1), 237 + 3);
        fault(" ".repeat(500 - line.length()) + line.replace(';', ' '), 2, 500);
        fault(" ".repeat(499) + "?", 1, 499);
        good(" ".repeat(500), 0);
        good("", 0);
        good("\n \n", 0);
        for (int size : new int[] {501, 502, 520, 1300}) {
            LikeYears y = withLaw();
            Texts.feed(y, "if");
            y.laws();
            Texts.feed(y, " ".repeat(size - 1) + "?");
            T.same("laws of " + size + " bytes", y.laws(), -2);
            T.same("the tape stays", y.about(4), size);
            T.same("the laws stay", y.moved(1), 231 + 7);
            T.same("the fault of the one ahead stays", y.fault(0), 2);
            T.same("its place stays", y.fault(1), 0);
            T.same("end", y.end(500), 500);
            T.same("now it is short enough", y.laws(), 0);
            T.same("no fault now", y.fault(0), 0);
        }
        LikeYears z = Texts.withBook(BOOK);
        Texts.feed(z, " ".repeat(500) + "?");
        z.laws();
        T.same("what stays on the tape is read as a book, too", z.book(), -1);
        T.same("at its last byte", z.fault(1), 500);
    }

    private static void anyByte() {
        for (int b = 0; b < 256; b++) {
            String text = "when 1" + (char) b;
            boolean joins = b >= '0' && b <= '9' || "<>=+-*".indexOf(b) >= 0 || b == 32 || b == 10;
            if (joins) {
                fault(text, 2, 7);
            } else if (b >= 'a' && b <= 'z') {
                fault(text, 1, 5);
            } else {
                fault(text, "();".indexOf(b) >= 0 ? 2 : 1, 6);
            }
        }
    }

    private static void names() {
        String[] units = {"judge", "in", "given", "weight"};
        for (String w : new String[] {"mark", "to", "never", "case", "told", "over", "when", "least", "most", "or", "and"}) {
            fault("when " + w, 2, 5);
            fault("when 1+" + w, 2, 7);
        }
        for (String w : units) {
            good("when " + w + ENDS, 1);
            good("when " + w + w.replaceAll(".*", " ") + "+ " + w + ENDS, 1);
        }
        fault("when not" + ENDS, 2, 9);
        fault("when 1+not 1" + ENDS, 2, 7);
        fault("when a" + ENDS, 5, 5);
        fault("when nobody" + ENDS, 5, 5);
        fault("when 1 or b" + ENDS, 5, 10);
        fault("when harms" + ENDS, 5, 5);
        fault("when harmharmh" + ENDS, 1, 5);
        fault("when 12345" + ENDS, 1, 5);
        fault("when 1x" + ENDS, 1, 5);
        good("when 9999" + ENDS, 1);
        good("when 0000" + ENDS, 1);
        good("when harm" + ENDS, 1);
        LikeYears x = new LikeYears();
        Texts.feed(x, "when harm" + ENDS);
        T.same("without a book no name is a mark's", x.laws(), -1);
        T.same("fault 5", x.fault(0), 5);
        Texts.feed(x, "when given" + ENDS);
        T.same("but for laws without names", x.laws(), 1);
        Texts.feed(x, "mark harm to 1;");
        x.book();
        T.same("behind another book there are none", x.about(5), 0);
        Texts.feed(x, "when harm" + ENDS);
        T.same("its names are known", x.laws(), 1);
    }

    private static void lines() {
        good(LINE.repeat(7), 7);
        good(LINE.repeat(8), 8);
        String eight = LINE.repeat(8);
        for (String more : new String[] {"when", LINE, "when ;", "least", "5", ";", "(", "nobody"}) {
            fault(eight + more, 2, eight.length());
            fault(eight + " \n" + more, 2, eight.length() + 2);
        }
        for (String more : new String[] {"?", "12345", "1x", "ninelette"}) {
            fault(eight + more, 1, eight.length());
        }
        LikeYears x = good("when given<0 least 0 most 0;".repeat(7) + "when 1 least 9 most 9;", 8);
        T.same("the 8th line", x.lawOf(0), 7);
    }

    private static void bounds() {
        for (int least : new int[] {0, 1, 239, 240}) {
            for (int most : new int[] {0, 1, 239, 240}) {
                String ahead = "when 1 least " + least + " most ";
                if (most < least) {
                    fault(ahead + most + ";", 4, ahead.length());
                } else {
                    good(ahead + most + ";", 1);
                }
            }
        }
        for (int n : new int[] {241, 242, 256, 1000, 9999}) {
            fault("when 1 least " + n + " most 240;", 4, 13);
            fault("when 1 least 0 most " + n + ";", 4, 20);
            fault("when 1 least 240 most " + n + ";", 4, 22);
        }
        fault("when 1 least 00000 most 0;", 1, 13);
        fault("when 1 least 5 most 00004;", 1, 20);
        fault("when 1 least 5 most 4#", 4, 20);
        fault("when 1 least 0 most 0", 2, 21);
        fault("when 1 least 0 most 0 0", 2, 22);
        fault("when 1 least 0 most -1;", 2, 20);
        fault("when 1 least harm", 2, 13);
        fault("when 1 most 1 least 0;", 2, 7);
        fault("when 1 least 0;", 2, 14);
        fault("when 1;", 2, 6);
        fault("when least", 2, 5);
        fault("least 0 most 0;", 2, 0);
        fault("1", 2, 0);
        fault("if 1 least 0 most 0;", 2, 0);
    }

    private static void units() {
        good("when 1" + "+1".repeat(48) + ENDS, 1);
        good("when 1" + "+1".repeat(49) + ENDS, 1);
        for (String more : new String[] {"1", "harm", "judge", "in", "given", "weight", "(1)", "nobody", "(", "when", ";", ")"}) {
            fault("when 1" + "+1".repeat(49) + "+" + more, 2, 5 + 1 + 98 + 1);
            fault("when 1" + "+1".repeat(49) + " + " + more, 2, 5 + 1 + 98 + 3);
        }
        fault("when 1" + "+1".repeat(49) + "+?", 1, 105);
        for (String sign : new String[] {"+", "-", "*", " and ", " or "}) {
            String fifty = "when 1" + (sign + "1").repeat(49);
            good(fifty + ENDS, 1);
            fault(fifty + sign + "1" + ENDS, 2, fifty.length() + sign.length());
        }
        String not = "when 1" + "+1".repeat(49) + " or not ";
        fault(not + "1", 2, not.length());
        String related = "when 1" + "+1".repeat(49) + "<";
        fault(related + "1", 2, related.length());
        // A unit ( e ) is a unit, too: at its first token.
        String pairs = "when (1)" + "+(1)".repeat(24);
        good(pairs + ENDS, 1);
        fault(pairs + "+1" + ENDS, 2, pairs.length() + 1);
        fault(pairs + "+(1)" + ENDS, 2, pairs.length() + 1);
        String odd = "when (1)" + "+(1)".repeat(23) + "+1";
        good(odd + "+1" + ENDS, 1);
        fault(odd + "+(1)" + ENDS, 2, odd.length() + 2);
        // In all lines.
        String twenty = "when 1" + "*1".repeat(19) + ENDS;
        good(twenty.repeat(2) + "when 1" + "*1".repeat(9) + ENDS, 3);
        String fiftieth = twenty.repeat(2) + "when 1" + "*1".repeat(9);
        fault(fiftieth + "*1", 2, fiftieth.length() + 1);
        fault(fiftieth + ENDS + "when 1" + ENDS, 2, fiftieth.length() + ENDS.length() + 5);
        good(fiftieth + ENDS, 3);
        fault(fiftieth + ENDS + "when" + ENDS, 2, fiftieth.length() + ENDS.length() + 5);
        // Those of laws that are a fault, or of laws ahead, are not among them.
        LikeYears x = good(fiftieth + ENDS, 3);
        Texts.feed(x, fiftieth + ENDS);
        T.same("once more fifty", x.laws(), 3);
        Texts.feed(x, fiftieth);
        T.same("a fault", x.laws(), -1);
        Texts.feed(x, fiftieth + ENDS);
        T.same("fifty behind a fault", x.laws(), 3);
    }

    private static String nested(int deep, String opens, String closes, String inner) {
        return "when " + opens.repeat(deep) + inner + closes.repeat(deep) + ENDS;
    }

    private static void within() {
        for (int deep = 1; deep <= 9; deep++) {
            if (deep <= 7) {
                good(nested(deep, "(", ")", "1"), 1);
                good(nested(deep, "not ", "", "1"), 1);
            } else {
                fault(nested(deep, "(", ")", "1"), 2, 5 + 7);
                fault(nested(deep, "( ", " )", "1"), 2, 5 + 14);
                fault(nested(deep, "not ", "", "1"), 2, 5 + 28);
            }
        }
        // A not and a ( e ) are within each other alike.
        good(nested(3, "not (", ")", "not 1"), 1);
        good(nested(3, "not(", ")", "(1)"), 1);
        fault(nested(3, "not(", ")", "(not 1)"), 2, 5 + 12 + 1);
        fault(nested(3, "not(", ")", "not not 1"), 2, 5 + 12 + 4);
        fault(nested(3, "not(", ")", "not (1)"), 2, 5 + 12 + 4);
        fault(nested(3, "not(", ")", "((1))"), 2, 5 + 12 + 1);
        fault(nested(7, "(", ")", "not 1"), 2, 5 + 7);
        fault(nested(7, "not ", "", "(1)"), 2, 5 + 28);
        good(nested(6, "(", ")", "not 1"), 1);
        good(nested(6, "not ", "", "(1)"), 1);
        good(nested(6, "(", ")", "1+(1)*(1)"), 1);
        fault(nested(7, "(", ")", "1+1*(1)"), 2, 5 + 7 + 4);
        fault(nested(7, "(", ")", "1 or 1 and not 1"), 2, 5 + 7 + 11);
        // What is closed is within no more.
        good("when " + "(1)+".repeat(9) + "1" + ENDS, 1);
        good("when " + "not 1 and ".repeat(9) + "1" + ENDS, 1);
        good("when not not not 1 and ((((1)))) or not not not not not not not 1" + ENDS, 1);
        good("when not not not not not not not 1 and (((((((1)))))))" + ENDS, 1);
        good(nested(7, "(", ")", "1") + nested(7, "not ", "", "1"), 2);
        fault("when (1", 2, 7);
        fault("when (1;", 2, 7);
        fault("when (1 least", 2, 8);
        fault("when ((1)", 2, 9);
        fault("when (1))", 2, 8);
        fault("when ()", 2, 6);
        fault("when (", 2, 6);
        fault("when )", 2, 5);
    }

    private static void grammar() {
        fault("when 1<2<3", 2, 8);
        fault("when 1=1=1", 2, 8);
        fault("when 1<2=1", 2, 8);
        good("when (1<2)=1" + ENDS, 1);
        fault("when 1<not 1", 2, 7);
        fault("when 1 and", 2, 10);
        fault("when and 1", 2, 5);
        fault("when 1 1", 2, 7);
        fault("when 1 harm", 2, 7);
        fault("when -1", 2, 5);
        fault("when +1", 2, 5);
        fault("when 1--1", 2, 7);
        fault("when 1 not 1", 2, 7);
        fault("when 1**1", 2, 7);
        fault("when 1<=1", 2, 7);
        fault("when 1 or or 1", 2, 10);
        good("when not 1<2 or not(1)and 1" + ENDS, 1);
        good("when(1)least 0most 0;".replace("0most", "0 most"), 1);
        fault("when(1)least 0most 0;", 1, 13);
        fault("when 1least 0", 1, 5);
        fault("when 1or 1", 1, 5);
    }

    private static void worths() {
        worth("harm", 0, 11);
        worth("harm", 1, 0);
        worth("gain", 0, 3);
        worth("judge", 0, 9);
        worth("judge", 1, 0);
        worth("in", 0, 99);
        worth("in", 1, 0);
        worth("given", 0, 240);
        worth("given", 1, 0);
        worth("weight", 0, 4);
        worth("weight", 1, 1);
        worth("9999", 0, 9999);
        worth("0", 0, 0);
        worth("2-3", 0, -1);
        worth("9-4-3", 0, 2);
        worth("9-(4-3)", 0, 8);
        worth("2+3*4", 0, 14);
        worth("2*3+4", 0, 10);
        worth("(2+3)*4", 0, 20);
        worth("20-2*3-1", 0, 13);
        for (int a = -1; a <= 2; a++) {
            for (int b = -1; b <= 2; b++) {
                String l = "(" + (a + 1) + "-1)";
                String r = "(" + (b + 1) + "-1)";
                worth(l + "<" + r, 0, a < b ? 1 : 0);
                worth(l + ">" + r, 0, a > b ? 1 : 0);
                worth(l + "=" + r, 0, a == b ? 1 : 0);
                worth(l + " and " + r, 0, a != 0 && b != 0 ? 1 : 0);
                worth(l + " or " + r, 0, a != 0 || b != 0 ? 1 : 0);
            }
            worth("not (" + (a + 1) + "-1)", 0, a == 0 ? 1 : 0);
        }
        worth("not 3<2", 0, 1);
        worth("not 0 and 0", 0, 0);
        worth("not 0 or 1", 0, 1);
        worth("not not 5", 0, 1);
        worth("1 or 0 and 0", 0, 1);
        worth("0 and 0 or 1", 0, 1);
        worth("0 and (0 or 1)", 0, 0);
        worth("1+1=2", 0, 1);
        worth("1=2-1 and 3", 0, 1);
        worth("2 or 4", 0, 1);
        worth("5 and 7 and 9", 0, 1);
        worth("5 and 7 and 0", 0, 0);
        worth("0 or 0 or 7", 0, 1);
    }

    private static void wraps() {
        int greatest = Integer.MAX_VALUE;
        String max = "(((" + greatest / 99980001 + "*9999+" + greatest / 9999 % 9999 + ")*9999)+" + greatest % 9999 + ")";
        worth(max, 0, greatest);
        worth(max + "+1<0", 0, 1);
        worth(max + "+1=0-" + max + "-1", 0, 1);
        worth("0-" + max + "-2=" + max, 0, 1);
        worth(max + "*2", 0, -2);
        worth(max + "*" + max, 0, 1);
        worth("(" + max + "+1)*2", 0, 0);
        worth("9999*9999*9999", 0, (int) (9999L * 9999 * 9999));
        worth("9999*9999*9999*9999", 0, 9999 * 9999 * 9999 * 9999);
        worth("given*given*given*given", 0, 240 * 240 * 240 * 240);
        worth("0-9999*9999*9999", 0, -(9999 * 9999 * 9999));
        LikeYears x = Texts.withBook(BOOK);
        Texts.feed(x, "when (" + max + "+1)*2 least 0 most 0;when " + max + "+1 least 0 most 0;");
        x.laws();
        T.same("what wraps to 0 is 0, what wraps below 0 is not", x.lawOf(0), 1);
    }

    private static void lawOf() {
        LikeYears x = Texts.withBook(BOOK);
        T.same("none without laws", x.lawOf(0), -1);
        Texts.feed(x, "when 0 least 0 most 0;when harm least 1 most 1;when gain least 2 most 2;when 0-1 least 3 most 3;"
            + "when 1 least 4 most 4;");
        x.laws();
        T.same("the first that is not 0", x.lawOf(0), 1);
        T.same("below 0 is not 0", x.lawOf(1), 3);
        for (int a : new int[] {Integer.MIN_VALUE, -1, 2, 3, 16, Integer.MAX_VALUE}) {
            T.same("lawOf(" + a + ")", x.lawOf(a), -1);
        }
        Texts.feed(x, "when harm=11 least 0 most 0;");
        x.laws();
        T.same("none holds", x.lawOf(1), -1);
        T.same("other laws, one line", x.about(5), 1);
        Texts.feed(x, "when gain=3 least 0 most 0;");
        x.laws();
        T.same("a mark that does not count", x.lawOf(0), 0);
        x.count(1, true);
        T.same("a mark that counts", x.lawOf(0), 0);
        x.end(0);
        x.laws();
        T.same("none again", x.lawOf(0), -1);
    }

    private static void moved() {
        LikeYears x = Texts.withBook(BOOK);
        for (int what = 0; what < 3; what++) {
            T.same("without laws", x.moved(what), what == 2 ? -1 : 0);
        }
        Texts.feed(x, "when weight=4 least 10 most 20;when judge=0 least 5 most 5;");
        x.laws();
        int[][] due = {{9, 5, 1, 1, 0}, {10, 5, 0, 0, -1}, {15, 5, 0, 0, -1}, {20, 5, 0, 0, -1}, {21, 5, 1, 1, 0},
            {9, 4, 2, 2, 0}, {9, 3, 2, 3, 1}, {21, 6, 2, 2, 0}, {21, 7, 2, 3, 1}, {10, 6, 1, 1, 1}, {20, 4, 1, 1, 1}};
        for (int[] d : due) {
            x.give(0, d[0]);
            x.give(1, d[1]);
            String what = "given " + d[0] + " and " + d[1] + ": ";
            T.same(what + "how many", x.moved(0), d[2]);
            T.same(what + "by how much", x.moved(1), d[3]);
            T.same(what + "the first by most", x.moved(2), d[4]);
        }
        for (int what : new int[] {Integer.MIN_VALUE, -1, 3, 4, Integer.MAX_VALUE}) {
            T.same("moved(" + what + ")", x.moved(what), -1);
        }
    }

    public static void main(String[] args) {
        bytes();
        anyByte();
        names();
        lines();
        bounds();
        units();
        within();
        grammar();
        worths();
        wraps();
        lawOf();
        moved();
        T.finish();
    }
}
