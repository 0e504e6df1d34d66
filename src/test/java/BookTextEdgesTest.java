/** Terms 1 sentence by sentence: tokens, limits, faults and their places, on both sides of each. */
public final class BookTextEdgesTest {
    private static final Checks T = new Checks("BookTextEdgesTest");
    private static final String GOOD = "mark m to 3;mark n to 2;case a judge 1 in 5 given 24 weight 1 m 2;"
        + "case b judge 2 in 6 given 36 weight 2 n 1;";
    private static final String FACTS = " judge 1 in 1 given 1 weight 1";
    private static final String[] WORDS = {"mark", "to", "never", "case", "judge", "in", "given", "weight", "told",
        "over", "when", "least", "most", "or", "and", "not"};

    private static String shown(String text) {
        return text.length() > 60 ? text.length() + " bytes .. " + text.substring(text.length() - 40) : text;
    }

    /** Lines if the text is good. */
    private static LikeYears good(String text, int lines) {
        LikeYears x = Texts.withBook(GOOD);
        Texts.feed(x, text);
        T.same("book " + shown(text), x.book(), lines);
        T.same("fault of " + shown(text), x.fault(0), 0);
        T.same("place of " + shown(text), x.fault(1), -1);
        T.same("tape behind " + shown(text), x.about(4), 0);
        return x;
    }

    private static void fault(String text, int fault, int place) {
        LikeYears x = Texts.withBook(GOOD);
        Texts.feed(x, text);
        T.same("book " + shown(text), x.book(), -1);
        T.same("fault of " + shown(text), x.fault(0), fault);
        T.same("place of " + shown(text), x.fault(1), place);
        T.same("tape behind " + shown(text), x.about(4), 0);
        T.same("marks behind " + shown(text), x.about(0), 2);
        T.same("cases behind " + shown(text), x.about(1), 2);
        T.same("told lines behind " + shown(text), x.about(2), 0);
    }

    /** What stands in the middle of a text may be good at its edges and is a fault beyond, at its own place. */
    private static void number(String ahead, String behind, int least, int most) {
        for (int n : new int[] {least, least + 1, most - 1, most}) {
            good(ahead + n + behind, 1);
        }
        for (int n : new int[] {least - 1, most + 1, most + 100, most + 256, 9999}) {
            if (n >= 0) {
                fault(ahead + n + behind, 4, ahead.length());
            }
        }
    }

    private static void bytes() {
        String first = "mark a to 1;";
        String last = "never a;";
        LikeYears x = good(first + " ".repeat(1300 - first.length() - last.length()) + last, 2);
        T.no("the last of 1,300 bytes is read", x.count(0, false));
        fault("mark a to 1" + "\n".repeat(1289), 2, 1300);
        fault(" ".repeat(1299) + "!", 1, 1299);
        fault(";".repeat(1300), 2, 0);
        fault("a".repeat(1300), 1, 0);
        fault("7".repeat(1300), 1, 0);
        fault(" ".repeat(1292) + "markmark", 2, 1292);
        fault(" ".repeat(1291) + "markmarks", 1, 1291);
        good(" ".repeat(1300), 0);
        good("", 0);
    }

    private static void anyByte() {
        for (int b = 0; b < 256; b++) {
            String text = first() + (char) b + " never a;";
            boolean stands = b == ';' || b >= 'a' && b <= 'z' || b >= '0' && b <= '9';
            if (b == 32 || b == 10) {
                good(text, 2);
            } else {
                fault(text, stands ? 2 : 1, 12);
            }
        }
    }

    private static String first() {
        return "mark a to 1;";
    }

    private static void words() {
        good("mark eightlet to 1;", 1);
        fault("mark ninelette to 1;", 1, 5);
        good("mark a to 1;case eightlet" + FACTS + " a 1;", 2);
        fault("case ninelette" + FACTS + ";", 1, 5);
        fault("neverland a;", 1, 0);
        fault("markmarkm a to 1;", 1, 0);
        fault("marka to 1;", 2, 0);
        fault("mar ka to 1;", 2, 0);
        fault("mark a t o 1;", 2, 7);
        good("mark a to 1;mark z to 1;mark az to 1;mark za to 1;mark aaaaaaaa to 1;mark aaaaaaa to 1;", 6);
        good("mark marks to 1;mark mar to 1;mark nots to 1;mark no to 1;", 4);
        LikeYears x = good("mark eightlea to 1;mark eightleb to 1;case a" + FACTS + " eightleb 1;", 3);
        T.same("words differ by their last letter", x.law(1, 1, 0, 0, 0), 1);
        T.same("not the other one", x.law(0, 1, 0, 0, 0), 0);
        fault("mark `a to 1;", 1, 5);
        fault("mark {a to 1;", 1, 5);
        fault("mark A to 1;", 1, 5);
        fault("mark Z to 1;", 1, 5);
        fault("mark aB to 1;", 1, 6);
        fault("mark a_b to 1;", 1, 6);
        fault("Mark a to 1;", 1, 0);
    }

    private static void numbers() {
        good("mark a to 1;", 1);
        good("mark a to 01;", 1);
        good("mark a to 001;", 1);
        good("mark a to 0001;", 1);
        fault("mark a to 00001;", 1, 10);
        fault("mark a to 99999;", 1, 10);
        fault("mark a to 9999;", 4, 10);
        fault("mark a to 0012;", 4, 10);
        good("mark a to 0011;", 1);
        fault("mark a to 1a;", 1, 10);
        fault("mark a to 1z;", 1, 10);
        fault("mark a to 12345z;", 1, 10);
        fault("mark a to 1234z;", 1, 10);
        fault("mark a to 1`;", 1, 11);
        fault("mark a to 1{;", 1, 11);
        fault("mark a to 1A;", 1, 11);
        fault("mark a to 1.5;", 1, 11);
        fault("mark a to -1;", 1, 10);
        fault("mark a to /1;", 1, 10);
        fault("mark a to :1;", 1, 10);
        fault("mark a to 1 1;", 2, 12);
        LikeYears x = good("mark a to 9;case b judge 0 in 99 given 190 weight 2 a 9;", 2);
        T.same("digits, the highest first", x.about(10), 190);
        T.same("the digit 9", x.law(0, 9, 0, 0, 0), 1);
    }

    private static void blanks() {
        LikeYears x = good("mark a to1;never a;case b judge1 in2 given3 weight4 a1;", 3);
        T.same("without blanks", x.law(0, 1, 0, 0, 1), 3);
        good("\n \nmark\n\n  a\nto \n1\n;\n \n", 1);
        good("   ", 0);
        good("\n", 0);
        fault("case b judge 1in 2", 1, 13);
        fault("mark a to 1;nevera;", 2, 12);
        fault("  mark  ", 2, 8);
        fault("\n\nmark\n", 2, 7);
        fault("mark a to 1\t;", 1, 11);
        fault("mark a to 1\r\n;", 1, 11);
    }

    private static void noNames() {
        for (String w : WORDS) {
            fault("mark " + w + " to 1;", 2, 5);
            fault("mark a to 1;never " + w + ";", 2, 18);
            fault("case " + w + FACTS + ";", 2, 5);
            fault("case a" + FACTS + " " + w + " 1;", 2, 37);
            fault("case a" + FACTS + ";told " + w + " over a;", 2, 42);
            fault("case a" + FACTS + ";told a over " + w + ";", 2, 49);
            good("mark " + (w.length() < 8 ? w + "s" : w) + " to 1;", 1);
            boolean begins = w.equals("mark") || w.equals("never") || w.equals("case") || w.equals("told");
            fault(w, 2, begins ? w.length() : 0);
            if (!w.equals("to")) {
                fault("mark a " + w + " 1;", 2, 7);
            }
        }
    }

    private static String marks(int number) {
        StringBuilder s = new StringBuilder();
        for (int i = 0; i < number; i++) {
            s.append("mark m").append((char) ('a' + i)).append(" to 1;");
        }
        return s.toString();
    }

    private static String cases(int number) {
        StringBuilder s = new StringBuilder();
        for (int i = 0; i < number; i++) {
            s.append("case c").append((char) ('a' + i)).append(FACTS).append(';');
        }
        return s.toString();
    }

    private static void limits() {
        T.same("6 marks", good(marks(6), 6).about(0), 6);
        for (String line : new String[] {"mark", "mark mg to 1;", "mark ma to 1;", "mark #", "mark g to 0;"}) {
            fault(marks(6) + line, 2, 78);
            fault(marks(6) + " \n" + line, 2, 80);
        }
        fault(marks(6) + "#mark", 1, 78);
        T.same("16 cases", good(cases(16), 16).about(1), 16);
        for (String line : new String[] {"case", "case cz" + FACTS + ";", "case ca", "case 1"}) {
            fault(cases(16) + line, 2, 16 * 38);
            fault(cases(16) + " " + line, 2, 16 * 38 + 1);
        }
        good(marks(6) + cases(16), 22);
        String two = "mark m to 1;case a" + FACTS + " m 1;case b" + FACTS + ";";
        String told = two + "told a over b;".repeat(20);
        T.same("20 told lines", good(told, 23).about(2), 20);
        for (String line : new String[] {"told", "told a over b;", "told b over a;", "told x", "told ;"}) {
            fault(told + line, 2, told.length());
            fault(told + "  " + line, 2, told.length() + 2);
        }
        good(told + "mark n to 1;case c" + FACTS + ";", 25);
        good("mark a to 1;never a;mark b to 1;never b;", 4);
    }

    private static void numberLimits() {
        number("mark a to ", ";", 1, 11);
        number("case a judge ", " in 0 given 0 weight 1;", 0, 9);
        number("case a judge 0 in ", " given 0 weight 1;", 0, 99);
        number("case a judge 0 in 0 given ", " weight 1;", 0, 240);
        number("case a judge 0 in 0 given 0 weight ", ";", 1, 4);
        LikeYears x = good("case a judge 9 in 99 given 240 weight 4;case b judge 0 in 0 given 0 weight 1;", 2);
        T.same("judge 9", x.luck(9, 0), 1);
        T.same("judge 0", x.luck(0, 0), 1);
        T.same("given 240", x.about(10), 240);
        T.same("given 0", x.about(11), 0);
        T.ratio("weights 4 and 1", x.kept(0, 0, 0), x.kept(0, 0, 1), 192, 1);
        T.same("year 99", x.drift(99, 0), 192);
        T.same("year 0", x.drift(0, 0), -192);
    }

    private static void steps() {
        for (int top = 1; top <= 11; top++) {
            String ahead = "mark a to " + top + ";case b" + FACTS + " a ";
            for (int step = 0; step <= 13; step++) {
                if (step <= top) {
                    T.same("a step", good(ahead + step + ";", 2).law(0, step, 0, 0, 0), 1);
                } else {
                    fault(ahead + step + ";", 4, ahead.length());
                }
            }
        }
        LikeYears x = good("mark a to 3;mark b to 2;case p" + FACTS + " b 1;case q" + FACTS + " b 2 a 3;mark c to 1;"
            + "case r" + FACTS + " c 1;", 6);
        int[][] atLeast = {{3, 1, 1, 1}, {3, 2, 1}, {3, 1}};
        for (int m = 0; m < 3; m++) {
            for (int step = 0; step < atLeast[m].length; step++) {
                T.same("steps, 0 if not told: mark " + m + " from " + step, x.law(m, step, 0, 0, 0), atLeast[m][step]);
            }
        }
        fault("mark a to 3;case p" + FACTS + " b 1;mark b to 2;", 5, 49);
        fault("mark a to 3;case p" + FACTS + " a;", 2, 50);
        fault("mark a to 3;case p" + FACTS + " 1;", 2, 49);
        fault("mark a to 3;case p" + FACTS + " a 1 2;", 2, 53);
        String six = marks(6);
        T.same("six steps", good(six + "case p" + FACTS + " mf 1 me 1 md 1 mc 1 mb 1 ma 1;", 7).law(5, 1, 0, 0, 0), 1);
        fault(six + "case p" + FACTS + " mf 1 me 1 md 1 mc 1 mb 1 ma 1 ma 1;", 3, 78 + 36 + 31);
    }

    private static void numbered() {
        LikeYears x = good("case c judge 1 in 1 given 7 weight 1;mark z to 2;case a judge 1 in 1 given 3 weight 1 z 2;"
            + "mark y to 3;case b judge 1 in 1 given 5 weight 1 y 3;told b over a;", 6);
        T.same("cases as told: first", x.about(10), 7);
        T.same("second", x.about(11), 3);
        T.same("third", x.about(12), 5);
        T.yes("marks as told: z to 2", x.step(0, 2) && !x.step(0, 3));
        T.yes("y to 3", x.step(1, 3));
        T.same("b over a", x.worse(2, 1), 1);
    }

    private static void never() {
        LikeYears x = good("mark m to 1;mark n to 1;never n;", 3);
        T.no("n does not count already", x.count(1, false));
        T.no("m counts already", x.count(0, true));
        T.yes("n may count", x.count(1, true));
        fault("never m;", 5, 6);
        fault("never m;mark m to 1;", 5, 6);
        fault("mark m to 1;never m;never m;", 3, 26);
        fault("mark m to 1;never m;mark n to 1;never n;never m;", 3, 46);
        fault("mark m to 1;never", 2, 17);
        fault("mark m to 1;never m", 2, 19);
        fault("mark m to 1;never m never", 2, 20);
        fault("mark m to 1;never m m;", 2, 20);
        good("mark m to 1;mark n to 1;never n;never m;", 4);
    }

    private static void cantStand() {
        String line = "mark a to 1;";
        String[] ends = {"", "mark", "mark a", "mark a to", "mark a to 1", "case", "case a", "case a judge",
            "case a judge 1", "case a judge 1 in", "case a judge 1 in 1", "case a judge 1 in 1 given",
            "case a judge 1 in 1 given 1", "case a judge 1 in 1 given 1 weight", "case a judge 1 in 1 given 1 weight 1",
            "told", "never"};
        for (String s : ends) {
            for (String end : new String[] {"", " ", "\n \n"}) {
                if (!s.isEmpty()) {
                    fault(s + end, 2, (s + end).length());
                }
            }
            String behind = s.endsWith("weight 1") ? "" : ";";
            if (!behind.isEmpty() && !s.equals("mark a to 1")) {
                fault(s + behind, 2, s.length());
            }
            fault(s + " ?", 1, s.length() + 1);
            fault(s + " 12345", 1, s.length() + 1);
            fault(s + " 1x", 1, s.length() + 1);
            fault(s + " ninelette", 1, s.length() + 1);
        }
        fault(line + "5", 2, 12);
        fault(line + "a", 2, 12);
        fault(line + ";", 2, 12);
        fault("case a in", 2, 7);
        fault("case a judge 1 given", 2, 15);
        fault("case a judge 1 in 1 weight", 2, 20);
        fault("case a judge 1 in 1 given 1 judge", 2, 28);
        fault("case a judge x", 2, 13);
        fault("case 1", 2, 5);
        fault("mark 1", 2, 5);
        fault("mark a to x", 2, 10);
        fault("case a" + FACTS + ";told a to a;", 2, 44);
        fault("case a" + FACTS + ";told 1", 2, 42);
        fault("case a" + FACTS + ";told a over 1", 2, 49);
        fault("case a" + FACTS + ";told a over a a;", 2, 51);
        for (char sign : "()<>=+-*".toCharArray()) {
            fault(sign + "", 1, 0);
            fault("mark a to 1" + sign, 1, 11);
            fault("mark " + sign, 1, 5);
        }
    }

    private static void toldAlready() {
        fault("mark a to 1;mark a to 1;", 3, 17);
        fault("mark a to 1;case a" + FACTS + ";", 3, 17);
        fault("case a" + FACTS + ";mark a to 1;", 3, 42);
        fault("case a" + FACTS + ";case a" + FACTS + ";", 3, 42);
        fault("mark a to 1;mark b to 1;case c" + FACTS + ";case b", 3, 66);
        fault("case a" + FACTS + ";case b" + FACTS + ";mark b to 1;", 3, 79);
        fault("mark m to 1;case a" + FACTS + " m 1 m 1;", 3, 53);
        fault("mark m to 1;case a" + FACTS + " m 0 m 0;", 3, 53);
        fault("mark m to 1;mark n to 1;case a" + FACTS + " m 0 n 1 m 1;", 3, 69);
        good("mark m to 1;case a" + FACTS + " m 1;case b" + FACTS + " m 1;", 3);
        good("mark a to 1;mark b to 1;case c" + FACTS + ";", 3);
        LikeYears x = good(GOOD, 4);
        T.same("names of the book ahead are free", x.about(1), 2);
    }

    private static void noSuchName() {
        fault("case a" + FACTS + " m 1;", 5, 37);
        fault("case a" + FACTS + " a 1;", 5, 37);
        fault("case a" + FACTS + ";case b" + FACTS + " a 1;", 5, 74);
        fault("case a" + FACTS + ";never a;", 5, 43);
        fault("told a over b;", 5, 5);
        fault("case a" + FACTS + ";told a over b;", 5, 49);
        fault("case a" + FACTS + ";told b over a;", 5, 42);
        fault("case a" + FACTS + ";told a over b;case b" + FACTS + ";", 5, 49);
        fault("mark m to 1;case a" + FACTS + ";told m over a;", 5, 54);
        fault("mark m to 1;case a" + FACTS + ";told a over m;", 5, 61);
    }

    private static void firstByPlace() {
        fault("mark a to 0;#", 4, 10);
        fault("mark a to 1;never b;mark a to 0;#", 5, 18);
        fault("mark a to 1;mark a to 12;", 3, 17);
        fault("#;mark a to 12;", 1, 0);
        fault("mark a to 1 to;never b;", 2, 12);
        String two = "mark m to 1;case a" + FACTS + " m 1;case b" + FACTS + ";told b over a;";
        int behind = two.length();
        fault(two, 6, behind - 2);
        fault(two + "#", 1, behind);
        fault(two + "told", 2, behind + 4);
        fault(two + "case b", 3, behind + 5);
        fault(two + "mark n to 12;", 4, behind + 10);
        fault(two + "never n;", 5, behind + 6);
        good(two.replace("told b over a", "told a over b"), 4);
    }

    private static void toldAgainst() {
        String apart = "mark m to 1;mark n to 1;case a" + FACTS + " m 1;case b" + FACTS + " n 1;case c" + FACTS + " m 1 n 1;";
        int at = apart.length();
        fault(apart + "told a over a;", 6, at + 12);
        good(apart + "told a over b;", 6);
        good(apart + "told a over b;told a over b;", 7);
        good(apart + "told c over a;told c over b;", 7);
        fault(apart + "told a over c;", 6, at + 12);
        fault(apart + "told a over b;told b over a;", 6, at + 26);
        fault(apart + "told a over b;told b over c;", 6, at + 26);
        fault(apart + "told a over b;told b over b;told b over a;", 6, at + 26);
        fault(apart + "told  a\nover   b;told b  over  \n a;", 6, at + 33);
        // The steps that count make one over the other, wherever never or another mark is told.
        good(apart + "never m;told b over a;", 7);
        fault(apart + "never n;told b over a;", 6, at + 20);
        fault(apart + "told b over a;never n;", 6, at + 12);
        fault(apart + "told b over a;never m;never n;", 6, at + 12);
        good(apart + "told b over a;mark o to 1;", 7);
        // Through a case that is told only behind the line.
        fault(apart + "told a over b;case d" + FACTS + " m 1;told b over d;", 6, at + 67);
        // The first of several, whatever is told behind it.
        fault(apart + "told a over a;told b over b;", 6, at + 12);
        fault(apart + "told a over c;told b over c;told c over c;", 6, at + 12);
        fault(apart + "told a over b;told a over c;told b over a;", 6, at + 26);
        fault(apart + "told c over c;told a over b;told b over a;", 6, at + 12);
        String like = "mark m to 1;case a" + FACTS + ";case b" + FACTS + ";";
        fault(like + "told a over b;", 6, like.length() + 12);
        fault("case a" + FACTS + ";told a over a;", 6, 49);
        // Around through three told lines, none of which is against those ahead of it but the last.
        String three = "mark x to 2;mark y to 2;case a" + FACTS + " y 2;case b" + FACTS + " x 1 y 1;case c" + FACTS + " x 2;";
        good(three + "told a over b;told b over c;", 7);
        fault(three + "told a over b;told b over c;told c over a;", 6, three.length() + 40);
        fault(three + "told a over b;told c over a;told b over c;", 6, three.length() + 40);
    }

    private static void feedsAndEnds() {
        LikeYears x = new LikeYears();
        for (int i = 0; i < 64; i++) {
            T.same("feed", x.feed(0x20202020, 0x20202020, 0x20202020, 0x20202020, 0x20202020), 20 * i + 20);
        }
        T.same("end(1280)", x.end(1280), 1280);
        T.same("to 1,300", x.feed(0x6D61726B, 0x20612074, 0x6F20313B, 0x6E657665, 0x7220613B), 1300);
        T.same("no more", x.feed(0, 0, 0, 0, 0), -1);
        T.same("1,300 bytes stay", x.about(4), 1300);
        T.same("1,300 bytes are read, nothing came behind", x.book(), 2);
        for (int at : new int[] {1281, 1290, 1299, 1300}) {
            LikeYears y = new LikeYears();
            for (int i = 0; i < 65; i++) {
                y.feed(0x20202020, 0x20202020, 0x20202020, 0x20202020, 0x20202020);
            }
            T.same("end", y.end(at), at);
            T.same("over 1,300 from " + at, y.feed(-1, -1, -1, -1, -1), -1);
            T.same("nothing comes", y.about(4), at);
            T.same("all is blank still", y.book(), 0);
        }
        bytesOfNumbers();
    }

    /** Each of twenty bytes, in its order: all blank but one, whose place a fault tells. */
    private static void bytesOfNumbers() {
        for (int i = 0; i < 20; i++) {
            int[] n = new int[5];
            java.util.Arrays.fill(n, 0x20202020);
            n[i / 4] ^= 0xA0 << 24 - 8 * (i % 4);
            LikeYears x = new LikeYears();
            T.same("feed", x.feed(n[0], n[1], n[2], n[3], n[4]), 20);
            T.same("book", x.book(), -1);
            T.same("fault", x.fault(0), 1);
            T.same("byte " + i, x.fault(1), i);
        }
        LikeYears y = new LikeYears();
        y.feed(Integer.MIN_VALUE, Integer.MAX_VALUE, -1, 0, 1);
        for (int i = 0; i < 20; i++) {
            T.same("the least and the greatest int", y.about(4), 20);
        }
        T.same("end(7)", y.end(7), 7);
        T.same("behind those on the tape", y.feed(0x20202020, 0x20202020, 0x20202020, 0x20202020, 0x20202020), 27);
        T.same("end(28)", y.end(28), -1);
        T.same("end(27)", y.end(27), 27);
        T.same("end(0)", y.end(0), 0);
        Texts.feed(y, first());
        T.same("what was cut off is gone", y.book(), 1);
    }

    public static void main(String[] args) {
        bytes();
        anyByte();
        words();
        numbers();
        blanks();
        noNames();
        limits();
        numberLimits();
        steps();
        numbered();
        never();
        cantStand();
        toldAlready();
        noSuchName();
        firstByPlace();
        toldAgainst();
        feedsAndEnds();
        T.finish();
    }
}
