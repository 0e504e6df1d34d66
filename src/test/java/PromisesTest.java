/** By hand, a method for each promise: ordinary inputs, the edges that the document names, wrong inputs. */
public final class PromisesTest {
    private static final String BOOK = "mark harm to 3;mark again to 2;"
        + "case a judge 1 in 5 given 24 weight 1 harm 2;"
        + "case b judge 1 in 5 given 36 weight 1 harm 1;"
        + "case c judge 2 in 6 given 12 weight 2 harm 3 again 1;"
        + "case d judge 2 in 6 given 6 weight 1;";
    private static final String CASE = " judge 1 in 1 given 1 weight 1";
    private static final int MIN = Integer.MIN_VALUE;
    private static final int MAX = Integer.MAX_VALUE;
    private static final long NO = -1000000000000L;

    private static int wrong;
    private static int asked;

    private static void same(String what, long got, long want) {
        asked++;
        if (got != want) {
            wrong++;
            System.out.println(what + " is " + got + ", due is " + want);
        }
    }

    private static void yes(String what, boolean got) {
        same(what, got ? 1 : 0, 1);
    }

    private static void no(String what, boolean got) {
        same(what, got ? 1 : 0, 0);
    }

    private static LikeYears of(String text) {
        return Texts.withBook(text);
    }

    private static void bookFault(String text, int fault, int place) {
        LikeYears x = of(BOOK);
        Texts.feed(x, text);
        int lines = x.book();
        same("book " + text, lines < 0 ? -1 : 0, fault == 0 ? 0 : -1);
        same("fault of " + text, x.fault(0), fault);
        same("place in " + text, x.fault(1), place);
        same("tape behind " + text, x.about(4), 0);
        if (fault != 0) {
            same("cases stay behind " + text, x.about(1), 4);
        }
    }

    private static void lawFault(String text, int fault, int place) {
        LikeYears x = of(BOOK);
        Texts.feed(x, "when 1 least 1 most 2;");
        x.laws();
        Texts.feed(x, text);
        int lines = x.laws();
        same("laws " + text, lines < 0 ? -1 : 0, fault == 0 ? 0 : -1);
        same("fault of " + text, x.fault(0), fault);
        same("place in " + text, x.fault(1), place);
        same("tape behind " + text, x.about(4), 0);
        if (fault != 0) {
            same("laws stay behind " + text, x.about(5), 1);
            same("law stays behind " + text, x.lawOf(0), 0);
        }
    }

    /** What an expression of laws is for case c of the book, by asking for each number in turn. */
    private static void worth(String e, int want) {
        LikeYears x = of(BOOK);
        long much = Math.abs((long) want);
        String number = "((" + much / 99980001 + "*9999+" + much / 9999 % 9999 + ")*9999+" + much % 9999 + ")";
        String less = want < 0 ? "0-" + number : number;
        Texts.feed(x, "when (" + e + ")=" + less + " least 0 most 0;");
        same("laws of " + e, x.laws(), 1);
        same(e + " = " + want, x.lawOf(2), 0);
    }

    private static void p01NewObject() {
        LikeYears x = new LikeYears();
        for (int what = 0; what < 6; what++) {
            same("about of a new object " + what, x.about(what), 0);
        }
        same("about(10)", x.about(10), -1);
        same("cost", x.cost(0, 0), 0);
        same("cost low", x.cost(2, 1), 1);
        same("again", x.again(2), 1);
        same("best", x.best(), -1);
        same("mercy", x.mercy(0), -1);
        same("NONE", LikeYears.NONE, -1);
        same("come to an empty book", x.come(0, 0, 5, 1), 0);
        no("step without marks", x.step(0, 0));
    }

    private static void p02Feed() {
        LikeYears x = new LikeYears();
        same("feed", x.feed(0x6D61726B, 0x20612074, 0x6F20313B, 0x20202020, 0x0A0A0A0A), 20);
        same("book of bytes, the highest first", x.book(), 1);
        for (int i = 1; i <= 65; i++) {
            same("feed", x.feed(-1, -1, -1, -1, -1), 20 * i);
        }
        same("feed over 1,300", x.feed(1, 2, 3, 4, 5), -1);
        same("nothing came", x.about(4), 1300);
        same("end", x.end(1281), 1281);
        same("feed over 1,300 by one", x.feed(1, 2, 3, 4, 5), -1);
        x.end(1280);
        same("feed to 1,300", x.feed(1, 2, 3, 4, 5), 1300);
    }

    private static void p03End() {
        LikeYears x = new LikeYears();
        same("end(0)", x.end(0), 0);
        same("end(1)", x.end(1), -1);
        x.feed(0, 0, 0, 0, 0);
        same("end(21)", x.end(21), -1);
        same("end(-1)", x.end(-1), -1);
        same("end(MIN)", x.end(MIN), -1);
        same("end(MAX)", x.end(MAX), -1);
        same("nothing was done", x.about(4), 20);
        same("end(20)", x.end(20), 20);
        same("end(7)", x.end(7), 7);
        same("about(4)", x.about(4), 7);
        same("end(8)", x.end(8), -1);
    }

    private static void p04Book() {
        LikeYears x = of(BOOK);
        Texts.feed(x, "when 1 least 1 most 2;");
        x.laws();
        x.keep(1);
        x.step(0, 3);
        x.give(0, 1);
        Texts.feed(x, "nothing");
        same("a fault", x.book(), -1);
        same("laws stay", x.about(5), 1);
        same("acts stay", x.about(3), 1);
        same("boxes stay", x.keep(2), 4);
        same("the new case stays", x.first(240), 2);
        Texts.feed(x, "mark a1to 3 never;");
        same("no book", x.book(), -1);
        Texts.feed(x, "mark\nharm to3;never harm;mark again to 2;case a" + CASE + " again 2;told a over a;");
        same("told over itself", x.book(), -1);
        Texts.feed(x, "mark\nharm to3;never harm;mark again to 2;case a" + CASE + " again2;");
        same("lines", x.book(), 4);
        same("laws are empty", x.about(5), 0);
        same("acts are none", x.about(3), 0);
        no("undo", x.undo());
        same("boxes are empty", x.back(1), -1);
        same("marks", x.about(0), 2);
        no("harm does not count", x.count(0, false));
        yes("the new case has steps 0 again", x.ends(false, 0) == -1);
        x.end(0);
        same("an empty text", x.book(), 0);
        same("no marks", x.about(0), 0);
        Texts.feed(x, "mark a to 1;" + " ".repeat(1288));
        same("1,300 bytes", x.book(), 1);
    }

    private static void p04Faults() {
        bookFault("mark a to 1;mark A", 1, 17);
        bookFault("mark ninelette to 1;", 1, 5);
        bookFault("mark eightlet to 1;", 0, -1);
        bookFault("mark a to 12345;", 1, 10);
        bookFault("mark a to 0011;", 0, -1);
        bookFault("mark a to 00011;", 1, 10);
        bookFault("mark a to 1b;", 1, 10);
        bookFault("mark a to 1;\tmark b to 1;", 1, 12);
        bookFault("mark a to 1+", 1, 11);
        bookFault("mark a to 1\u00e4", 1, 11);
        bookFault("  ", 0, -1);
        bookFault("mark  ", 2, 6);
        bookFault("mark;", 2, 4);
        bookFault("mark 5", 2, 5);
        bookFault("mark not to 1;", 2, 5);
        bookFault("mark a in 1;", 2, 7);
        bookFault("mark a to b;", 2, 10);
        bookFault("mark a to 1 mark", 2, 12);
        bookFault("mark a to 12;", 4, 10);
        bookFault("mark a to 0;", 4, 10);
        bookFault("mark a to 11;", 0, -1);
        bookFault("when a", 2, 0);
        bookFault("7", 2, 0);
        bookFault(";", 2, 0);
        bookFault("mark a to 1;case a", 3, 17);
        bookFault("case a" + CASE + ";case a", 3, 42);
        bookFault("case a" + CASE + ";mark a", 3, 42);
        bookFault("case a judge 9 in 99 given 240 weight 4;", 0, -1);
        bookFault("case a judge 10 in 0", 4, 13);
        bookFault("case a judge 0 in 100", 4, 18);
        bookFault("case a judge 0 in 0 given 241", 4, 26);
        bookFault("case a judge 0 in 0 given 0 weight 0", 4, 35);
        bookFault("case a judge 0 in 0 given 0 weight 5", 4, 35);
        bookFault("case a judge 0 given", 2, 15);
        bookFault("case a" + CASE, 2, 36);
        bookFault("case a" + CASE + " to", 2, 37);
        bookFault("case a" + CASE + " 5", 2, 37);
        bookFault("case a" + CASE + " a 1;", 5, 37);
        bookFault("mark m to 2;case a" + CASE + " m 3;", 4, 51);
        bookFault("mark m to 2;case a" + CASE + " m;", 2, 50);
        bookFault("mark m to 2;case a" + CASE + " m 2 m 2;", 3, 53);
        bookFault("case a" + CASE + " m 1;mark m to 2;", 5, 37);
        bookFault("never m;mark m to 2;", 5, 6);
        bookFault("mark m to 2;never m;never m;", 3, 26);
        bookFault("case a" + CASE + ";never a;", 5, 43);
        bookFault("case a" + CASE + ";told a over b;case b" + CASE + ";", 5, 49);
        bookFault("mark m to 1;case a" + CASE + ";told m over a;", 5, 54);
        bookFault("case a" + CASE + ";told a;", 2, 43);
        bookFault("case a" + CASE + ";told over;", 2, 42);
    }

    private static void p04Limits() {
        StringBuilder marks = new StringBuilder();
        for (char c = 'a'; c <= 'f'; c++) {
            marks.append("mark ").append(c).append(" to 1;");
        }
        bookFault(marks.toString(), 0, -1);
        bookFault(marks + "mark #", 2, marks.length());
        StringBuilder cases = new StringBuilder();
        for (char c = 'a'; c <= 'p'; c++) {
            cases.append("case ").append(c).append(CASE).append(';');
        }
        bookFault(cases.toString(), 0, -1);
        bookFault(cases + " case q", 2, cases.length() + 1);
        String two = "mark m to 2;case a" + CASE + " m 2;case b" + CASE + ";";
        String told = two + "told a over b;".repeat(20);
        bookFault(told, 0, -1);
        bookFault(told + "told", 2, told.length());
    }

    private static void p04ToldAgainst() {
        String two = "mark m to 2;mark n to 2;case a" + CASE + " m 1;case b" + CASE + " n 1;";
        bookFault(two + "told a over b;told b over a;", 6, two.length() + 26);
        bookFault(two + "told a over b;told a over b;", 0, -1);
        bookFault(two + "told a over a;", 6, two.length() + 12);
        bookFault(two + "told a over b;never m;", 6, two.length() + 12);
        bookFault(two + "told b over a;never m;", 0, -1);
        bookFault(two + "told a over a;mark", 2, two.length() + 18);
        bookFault(two + "case c" + CASE + " m 2 n 2;told a over b;told b over c;", 6, two.length() + 71);
        bookFault(two + "told a over b;case c" + CASE + " m 2;told b over c;", 6, two.length() + 67);
        bookFault("mark m to 2;case a" + CASE + ";case b" + CASE + ";told a over b;", 6, 98);
    }

    private static void p05Laws() {
        LikeYears x = of(BOOK);
        Texts.feed(x, " ".repeat(501));
        same("501 bytes", x.laws(), -2);
        same("the tape stays", x.about(4), 501);
        same("no fault of it", x.fault(0), 0);
        x.end(500);
        same("500 bytes", x.laws(), 0);
        same("the tape is empty", x.about(4), 0);
        Texts.feed(x, "when 1 least 0 most 0;".repeat(8));
        same("8 lines", x.laws(), 8);
        Texts.feed(x, "when");
        same("a fault", x.laws(), -1);
        same("those there are stay", x.about(5), 8);
        Texts.feed(x, "#".repeat(501));
        same("too long", x.laws(), -2);
        same("fault of the one ahead", x.fault(0), 2);
        same("place of the one ahead", x.fault(1), 4);
        x.end(0);
        same("none", x.laws(), 0);
        same("no lines", x.about(5), 0);
    }

    private static void p05Faults() {
        lawFault("if", 2, 0);
        lawFault("#", 1, 0);
        lawFault("when", 2, 4);
        lawFault("when ;", 2, 5);
        lawFault("when mark", 2, 5);
        lawFault("when a", 5, 5);
        lawFault("when nobody", 5, 5);
        lawFault("when harm<1<2", 2, 11);
        lawFault("when harm+", 2, 10);
        lawFault("when 1<not 1", 2, 7);
        lawFault("when 1+not 1", 2, 7);
        lawFault("when not not 1 and not 1 least 0 most 240;", 0, -1);
        lawFault("when (1", 2, 7);
        lawFault("when (1;", 2, 7);
        lawFault("when ()", 2, 6);
        lawFault("when 1) least", 2, 6);
        lawFault("when -1", 2, 5);
        lawFault("when 12345", 1, 5);
        lawFault("when 1a", 1, 5);
        lawFault("when 9999 least 240 most 240;", 0, -1);
        lawFault("when 1 most", 2, 7);
        lawFault("when 1 least 241", 4, 13);
        lawFault("when 1 least x", 2, 13);
        lawFault("when 1 least 5 most 4;", 4, 20);
        lawFault("when 1 least 5 most 241;", 4, 20);
        lawFault("when 1 least 5 most 5 when", 2, 22);
        String eight = "when 1 least 0 most 0;".repeat(8);
        lawFault(eight + "when #", 2, eight.length());
        lawFault(eight + "#", 1, eight.length());
        lawFault("when (((((((1))))))) least 0 most 0;", 0, -1);
        lawFault("when ((((((((1)))))))) least 0 most 0;", 2, 12);
        lawFault("when " + "not ".repeat(7) + "1 least 0 most 0;", 0, -1);
        lawFault("when " + "not ".repeat(8) + "1 least 0 most 0;", 2, 33);
        lawFault("when " + "not(".repeat(3) + "not 1))) least 0 most 0;", 0, -1);
        lawFault("when " + "not(".repeat(3) + "not(1)))) least 0 most 0;", 2, 20);
        lawFault("when (1)+(1)+(1)+(1)+(1)+(1)+(1)+(1)+(1) least 0 most 0;", 0, -1);
        lawFault("when 1" + "+1".repeat(49) + " least 0 most 0;", 0, -1);
        lawFault("when 1" + "+1".repeat(50) + " least 0 most 0;", 2, 105);
        lawFault("when 1" + "+1".repeat(48) + "+nobody", 5, 103);
        lawFault("when 1" + "+1".repeat(49) + "+nobody", 2, 105);
        lawFault("when 1" + "+1".repeat(48) + "+(1", 2, 104);
        lawFault("when 1" + "+1".repeat(49) + "<#", 1, 105);
        lawFault("when 1" + "+1".repeat(39) + " least 0 most 0;when 1" + "+1".repeat(10), 2, 84 + 16 + 6 + 19);
    }

    private static void p05Worth() {
        worth("1+2*3", 7);
        worth("(1+2)*3", 9);
        worth("5-2-1", 2);
        worth("2 or 0", 1);
        worth("0 or 0", 0);
        worth("2 and 3", 1);
        worth("2 and 0", 0);
        worth("1 or 0 and 0", 1);
        worth("not 7", 0);
        worth("not 0", 1);
        worth("not not 7", 1);
        worth("not 3<2", 1);
        worth("not 0 and 0", 0);
        worth("2<3", 1);
        worth("3<3", 0);
        worth("3>2", 1);
        worth("3>3", 0);
        worth("3=3", 1);
        worth("1+1=2", 1);
        worth("harm", 3);
        worth("again", 1);
        worth("judge", 2);
        worth("in", 6);
        worth("given", 12);
        worth("weight", 2);
        worth("9999*9999*9999", (int) (9999L * 9999 * 9999));
        worth("0-9999*9999*21", -2099580021);
        worth("2-3", -1);
    }

    private static void p06Fault() {
        LikeYears x = new LikeYears();
        same("fault(0) ahead of any", x.fault(0), 0);
        same("fault(1) ahead of any", x.fault(1), -1);
        same("fault(2)", x.fault(2), -1);
        same("fault(-1)", x.fault(-1), -1);
        Texts.feed(x, " oh");
        x.book();
        same("fault(0)", x.fault(0), 2);
        same("fault(1)", x.fault(1), 1);
        x.laws();
        same("fault(0) of laws", x.fault(0), 0);
        same("fault(1) of laws", x.fault(1), -1);
        same("fault(2) again", x.fault(2), -1);
    }

    private static void p07Worse() {
        LikeYears x = of(BOOK + "case e" + CASE + " again 2;told e over b;");
        same("worse(2, 3)", x.worse(2, 3), 1);
        same("worse(3, 2)", x.worse(3, 2), 0);
        same("worse(3, 4) told, and through b", x.worse(4, 3), 1);
        same("worse(4, 1) told", x.worse(4, 1), 1);
        same("worse(1, 4)", x.worse(1, 4), 0);
        same("worse(3, 3)", x.worse(3, 3), 2);
        same("worse(-1, 0)", x.worse(-1, 0), -1);
        same("worse(0, 5)", x.worse(0, 5), -1);
        same("worse(MIN, MAX)", x.worse(MIN, MAX), -1);
        LikeYears y = of("mark m to 2;mark n to 2;never n;case a" + CASE + " n 2;case b" + CASE + ";");
        same("worse, n does not count", y.worse(0, 1), 2);
        y.count(1, true);
        same("worse, n counts", y.worse(0, 1), 1);
    }

    private static void p08Clash() {
        LikeYears x = of(BOOK);
        same("clash(0)", x.clash(0), 3);
        same("clash(1)", x.clash(1), 48);
        same("clash(2)", x.clash(2), 24);
        same("clash(3)", x.clash(3), -1);
        same("clash(-1)", x.clash(-1), -1);
        LikeYears y = of("case a" + CASE + ";case b" + CASE + ";");
        same("like ones, given the same", y.clash(0), 0);
        same("no gaps", y.clash(1), 0);
        same("no greatest", y.clash(2), 0);
        y.give(0, 4);
        same("like ones", y.clash(0), 1);
        same("like ones, gap", y.clash(1), 3);
    }

    private static void p09Oddest() {
        LikeYears x = of(BOOK);
        same("oddest(0)", x.oddest(0), 1);
        same("oddest(1)", x.oddest(1), 2);
        same("oddest(2)", x.oddest(2), 36);
        same("oddest(3)", x.oddest(3), -1);
        same("oddest(-1)", x.oddest(-1), -1);
        x.give(0, 36);
        same("most others first", x.oddest(0), 2);
        x.give(2, 40);
        same("none", x.oddest(0), -1);
        same("none 1", x.oddest(1), -1);
        same("none 2", x.oddest(2), -1);
        LikeYears y = of("case a" + CASE + ";case b" + CASE + ";");
        y.give(1, 9);
        same("the least number", y.oddest(0), 0);
    }

    private static void p10Beside() {
        LikeYears x = of(BOOK);
        same("beside(0)", x.beside(0), 1);
        same("beside(1)", x.beside(1), 2);
        same("beside(3)", x.beside(3), -1);
        same("beside(4)", x.beside(4), -1);
        same("beside(-1)", x.beside(-1), -1);
        x.give(0, 36);
        same("of like ones the least", x.beside(2), 0);
    }

    private static void p11Kept() {
        LikeYears x = of(BOOK);
        same("kept(0, 0, 0)", x.kept(0, 0, 0), 21);
        same("kept(0, 3, 0)", x.kept(0, 3, 0), 6);
        same("kept(1, 0, 0)", x.kept(1, 0, 0), 12);
        same("kept(2, 0, 0)", x.kept(2, 0, 0), 24);
        same("kept(2, 0, 1)", x.kept(2, 0, 1), 1);
        x.give(2, 13);
        same("kept(0, 0) up", x.kept(0, 0, 0), 43);
        same("kept(0, 0) low", x.kept(0, 0, 1), 2);
        same("kept(2, 2) up", x.kept(2, 2, 0), 49);
        same("kept(2, 2) low", x.kept(2, 2, 1), 2);
        same("kept(1, 2) low", x.kept(1, 2, 1), 1);
        x.give(3, 0);
        same("kept 0", x.kept(0, 3, 0), 0);
        same("kept 0 low", x.kept(0, 3, 1), 1);
        same("kept(3, ..)", x.kept(3, 0, 0), -1);
        same("kept(-1, ..)", x.kept(-1, 0, 0), -1);
        same("kept(.., 4, ..)", x.kept(0, 4, 0), -1);
        same("kept(.., -1, ..)", x.kept(1, -1, 0), -1);
        same("kept(.., 2)", x.kept(2, 0, 2), -1);
        same("kept(.., -1)", x.kept(2, 0, -1), -1);
    }

    private static void p12Cost() {
        LikeYears x = of(BOOK);
        same("cost(0, 0)", x.cost(0, 0), 396);
        same("cost(1, 0)", x.cost(1, 0), 36);
        same("cost(1, 1)", x.cost(1, 1), 1);
        same("cost(2, 0)", x.cost(2, 0), 12);
        x.give(2, 13);
        same("cost(2) up", x.cost(2, 0), 23);
        same("cost(2) low", x.cost(2, 1), 2);
        x.give(0, 25);
        x.come(0, 0, 8, 1);
        same("cost(0) up", x.cost(0, 0), 1475);
        same("cost(0) low", x.cost(0, 1), 4);
        same("cost(3, 0)", x.cost(3, 0), -1);
        same("cost(-1, 0)", x.cost(-1, 0), -1);
        same("cost(0, 2)", x.cost(0, 2), -1);
        same("cost(0, -1)", x.cost(0, -1), -1);
        LikeYears y = of("case a judge 0 in 0 given 1 weight 1;case b judge 0 in 0 given 2 weight 2;");
        same("thirds up", y.cost(0, 0), 2);
        same("thirds low", y.cost(0, 1), 3);
    }

    private static void p13Block() {
        LikeYears x = of(BOOK);
        same("block(0)", x.block(0), 7);
        same("block(3)", x.block(3), 8);
        same("block(4)", x.block(4), -1);
        same("block(-1)", x.block(-1), -1);
        LikeYears y = of("mark m to 2;mark n to 2;case a judge 0 in 0 given 5 weight 1 m 1;"
            + "case b judge 0 in 0 given 5 weight 1 n 1;case c judge 0 in 0 given 9 weight 1 m 2;");
        same("none is over the other, kept alike: one block", y.block(0), 3);
        same("block(2)", y.block(2), 4);
    }

    private static void p14Again() {
        LikeYears x = of(BOOK);
        same("again(0)", x.again(0), 2);
        same("again(1)", x.again(1), 3);
        same("again(2)", x.again(2), 3);
        same("again(3)", x.again(3), -1);
        same("again(-1)", x.again(-1), -1);
        x.give(0, 0);
        same("b with c, a with b and d", x.again(0), 2);
        x.give(2, 240);
        x.give(0, 240);
        same("none", x.again(0), 0);
        same("the empty set", x.again(1), 0);
        same("just that", x.again(2), 1);
    }

    private static void p15Grid() {
        LikeYears x = of(BOOK + "mark third to 1;never third;");
        same("grid(0, 1, 0)", x.grid(0, 1, 0), 396);
        same("grid(0, 1, 1)", x.grid(0, 1, 1), 1);
        same("a mark that does not count", x.grid(0, 2, 0), 396);
        same("grid(1, 2, 0)", x.grid(1, 2, 0), 576);
        same("grid(1, 0, 0)", x.grid(1, 0, 0), -1);
        same("grid(1, 1, 0)", x.grid(1, 1, 0), -1);
        same("grid(0, 3, 0)", x.grid(0, 3, 0), -1);
        same("grid(-1, 1, 0)", x.grid(-1, 1, 0), -1);
        same("grid(0, 1, 2)", x.grid(0, 1, 2), -1);
    }

    private static void p16Loses() {
        LikeYears x = of(BOOK + "mark third to 1;never third;");
        same("loses(0, 1, 0)", x.loses(0, 1, 0), 0);
        same("loses(0, 1, 1)", x.loses(0, 1, 1), 1);
        same("loses(1, 2, 0)", x.loses(1, 2, 0), 180);
        x.count(0, false);
        same("below 0", x.loses(0, 1, 0), -180);
        same("loses(1, 0, 0)", x.loses(1, 0, 0), NO);
        same("loses(0, 3, 0)", x.loses(0, 3, 0), NO);
        same("loses(-1, 0, 0)", x.loses(-1, 0, 0), NO);
        same("loses(0, 1, 2)", x.loses(0, 1, 2), NO);
    }

    private static void p17Best() {
        same("one mark", of("mark a to 1;").best(), -1);
        same("like ones: the least", of("mark a to 1;mark b to 1;mark c to 1;").best(), 1);
        LikeYears x = of("mark u to 2;mark v to 2;mark w to 2;never w;case a judge 0 in 0 given 1 weight 1 u 1 v 1;"
            + "case b judge 0 in 0 given 5 weight 1 w 2;case c judge 0 in 0 given 0 weight 1 u 1 w 1;");
        same("whether they count or not", x.best(), 12);
        same("its cost", x.grid(1, 2, 0), 0);
    }

    private static void p18Runs() {
        LikeYears x = of(BOOK);
        same("runs(0, 1, 0)", x.runs(0, 1, 0), 576);
        same("runs(0, 2, 0)", x.runs(0, 2, 0), 396);
        same("runs(0, 2, 1)", x.runs(0, 2, 1), 1);
        same("runs(0, 12, 0)", x.runs(0, 12, 0), 396);
        same("runs(0, 0, 0)", x.runs(0, 0, 0), -1);
        same("runs(0, 13, 0)", x.runs(0, 13, 0), -1);
        same("runs(2, 1, 0)", x.runs(2, 1, 0), -1);
        same("runs(-1, 1, 0)", x.runs(-1, 1, 0), -1);
        same("runs(0, 1, 2)", x.runs(0, 1, 2), -1);
        x.give(1, 35);
        same("fifths up", x.runs(0, 1, 0), 2704);
        same("fifths low", x.runs(0, 1, 1), 5);
    }

    private static void p19Begins() {
        LikeYears x = of("mark m to 11;case a judge 0 in 0 given 1 weight 1 m 2;case b judge 0 in 0 given 5 weight 1 m 5;"
            + "case c judge 0 in 0 given 9 weight 1 m 11;");
        same("one run", x.begins(0, 1), 0);
        same("two: of like ones the least number", x.begins(0, 2), 8);
        same("three, as early as can be", x.begins(0, 3), 8 + 64);
        same("no more than needed", x.begins(0, 12), 8 + 64);
        same("begins(0, 0)", x.begins(0, 0), -1);
        same("begins(0, 13)", x.begins(0, 13), -1);
        same("begins(1, 1)", x.begins(1, 1), -1);
        same("begins(-1, 1)", x.begins(-1, 1), -1);
        same("without cases", of("mark m to 11;").begins(0, 5), 0);
        same("without cases, cost", of("mark m to 11;").runs(0, 5, 1), 1);
    }

    private static void p20Off() {
        LikeYears x = of(BOOK);
        same("off(1)", x.off(1), 36);
        same("off(2)", x.off(2), 0);
        same("off(9)", x.off(9), 0);
        same("off(10)", x.off(10), -1);
        same("off(-1)", x.off(-1), -1);
        x.step(0, 3);
        x.step(1, 2);
        x.come(9, 0, 11, 1);
        same("kept the least", x.off(9), 1);
    }

    private static void p21Luck() {
        LikeYears x = of(BOOK);
        same("luck(1, 0)", x.luck(1, 0), 1);
        same("luck(1, 1)", x.luck(1, 1), 6);
        same("luck(2, 0)", x.luck(2, 0), 1);
        same("luck(2, 1)", x.luck(2, 1), 1);
        same("no cases", x.luck(3, 0), -1);
        same("luck(10, 0)", x.luck(10, 0), -1);
        same("luck(-1, 0)", x.luck(-1, 0), -1);
        same("luck(1, 2)", x.luck(1, 2), -1);
        x.come(3, 0, 6, 1);
        same("one of five shares 0", x.luck(3, 1), 1);
        same("two of five up", x.luck(1, 0), 1);
        same("two of five low", x.luck(1, 1), 10);
        x.come(9, 0, 6, 1);
        same("the last judge", x.luck(9, 0), 1);
        x.come(0, 0, 6, 1);
        same("the first judge", x.luck(0, 0), 1);
    }

    private static void p22Upto() {
        LikeYears x = of(BOOK);
        same("upto(4, 0)", x.upto(4, 0), 0);
        same("upto(4, 1)", x.upto(4, 1), 1);
        same("upto(5, 0)", x.upto(5, 0), 72);
        same("upto(6, 0)", x.upto(6, 0), 396);
        same("upto(99, 0)", x.upto(99, 0), 396);
        same("upto(100, 0)", x.upto(100, 0), -1);
        same("upto(-1, 0)", x.upto(-1, 0), -1);
        same("upto(5, 2)", x.upto(5, 2), -1);
        LikeYears y = of("mark m to 2;mark n to 2;mark o to 2;case a judge 0 in 1 given 1 weight 1 m 2;"
            + "case b judge 0 in 9 given 5 weight 1 n 2;case c judge 0 in 1 given 5 weight 1 o 2;"
            + "told a over b;told b over c;");
        same("what is told goes through others", y.upto(1, 0), 8);
    }

    private static void p23Drift() {
        LikeYears x = of(BOOK);
        same("drift(5, 0)", x.drift(5, 0), 18);
        same("drift(6, 0)", x.drift(6, 0), -18);
        same("drift(6, 1)", x.drift(6, 1), 1);
        same("drift(0, 0)", x.drift(0, 0), 0);
        same("drift(0, 1)", x.drift(0, 1), 1);
        x.give(2, 13);
        x.give(1, 35);
        same("quarters up", x.drift(5, 0), 33);
        same("quarters low", x.drift(5, 1), 2);
        same("drift(100, 0)", x.drift(100, 0), NO);
        same("drift(-1, 0)", x.drift(-1, 0), NO);
        same("drift(5, 2)", x.drift(5, 2), NO);
    }

    private static void p24Within() {
        LikeYears x = of(BOOK);
        same("within", x.within(), 1);
        x.give(3, 240);
        same("within", x.within(), 2);
        same("of an empty book", new LikeYears().within(), 0);
    }

    private static void p25Law() {
        LikeYears x = of(BOOK);
        same("law(0, 2, 20, 30, 0)", x.law(0, 2, 20, 30, 0), 1);
        same("law(0, 2, 20, 30, 1)", x.law(0, 2, 20, 30, 1), 8);
        same("law(0, 0, 13, 35, 0)", x.law(0, 0, 13, 35, 0), 3);
        same("law(0, 0, 13, 35, 1)", x.law(0, 0, 13, 35, 1), 9);
        same("law(0, 0, 6, 36, 0)", x.law(0, 0, 6, 36, 0), 0);
        same("law(1, 2, 0, 0, 0)", x.law(1, 2, 0, 0, 0), 0);
        same("law(1, 3, 0, 0, 0)", x.law(1, 3, 0, 0, 0), -1);
        same("law(0, -1, 0, 0, 0)", x.law(0, -1, 0, 0, 0), -1);
        same("law(2, 0, 0, 0, 0)", x.law(2, 0, 0, 0, 0), -1);
        same("law(-1, 0, 0, 0, 0)", x.law(-1, 0, 0, 0, 0), -1);
        same("law(0, 0, -1, 0, 0)", x.law(0, 0, -1, 0, 0), -1);
        same("law(0, 0, 0, 241, 0)", x.law(0, 0, 0, 241, 0), -1);
        same("law(0, 0, 241, 241, 0)", x.law(0, 0, 241, 241, 0), -1);
        same("law(0, 0, 5, 4, 0)", x.law(0, 0, 5, 4, 0), -1);
        same("law(0, 0, 0, 240, 0)", x.law(0, 0, 0, 240, 0), 0);
        same("law(0, 0, 5, 5, 2)", x.law(0, 0, 5, 5, 2), -1);
        same("law(0, 0, 5, 5, -1)", x.law(0, 0, 5, 5, -1), -1);
        x.count(0, false);
        same("whether it counts or not", x.law(0, 2, 20, 30, 1), 8);
    }

    private static LikeYears withLaws() {
        LikeYears x = of(BOOK);
        Texts.feed(x, "when harm>2 least 20 most 40;when judge=1 and not given<30 least 0 most 30;"
            + "when (harm+again)*2=0 least 5 most 5;");
        x.laws();
        return x;
    }

    private static void p26LawOf() {
        LikeYears x = withLaws();
        same("lawOf(0)", x.lawOf(0), -1);
        same("lawOf(1)", x.lawOf(1), 1);
        same("lawOf(2)", x.lawOf(2), 0);
        same("lawOf(3)", x.lawOf(3), 2);
        same("lawOf(4)", x.lawOf(4), -1);
        same("lawOf(-1)", x.lawOf(-1), -1);
        x.count(0, false);
        same("whether it counts or not", x.lawOf(2), 0);
        x.step(0, 3);
        x.come(0, 0, 0, 1);
        same("of one that came", x.lawOf(4), 0);
        Texts.feed(x, "when 0 least 0 most 0;when 7 least 0 most 0;when 1 least 0 most 0;");
        x.laws();
        same("the first that is not 0", x.lawOf(0), 1);
    }

    private static void p27Moved() {
        LikeYears x = withLaws();
        same("moved(0)", x.moved(0), 3);
        same("moved(1)", x.moved(1), 15);
        same("moved(2)", x.moved(2), 2);
        same("moved(3)", x.moved(3), -1);
        same("moved(-1)", x.moved(-1), -1);
        x.give(2, 14);
        same("the first of those by most", x.moved(2), 1);
        x.give(2, 20);
        x.give(1, 29);
        x.give(3, 5);
        same("none moves", x.moved(0), 0);
        same("by 0", x.moved(1), 0);
        same("none", x.moved(2), -1);
    }

    private static void p28Mercy() {
        LikeYears x = of(BOOK + "never harm;never again;");
        same("clashes if none counts", x.clash(0), 6);
        same("mercy(0)", x.mercy(0), 0);
        same("mercy(1)", x.mercy(1), 3);
        same("mercy(2)", x.mercy(2), -1);
        same("mercy(-1)", x.mercy(-1), -1);
        x.count(0, true);
        same("mercy(0) of the other", x.mercy(0), 1);
        x.count(1, true);
        same("all count", x.mercy(0), -1);
        same("all count, 1", x.mercy(1), -1);
        same("like ones: the least", of("mark a to 1;mark b to 1;never b;never a;").mercy(0), 0);
    }

    private static void p29Step() {
        LikeYears x = of(BOOK);
        yes("step(0, 3)", x.step(0, 3));
        no("step(0, 4)", x.step(0, 4));
        no("step(0, -1)", x.step(0, -1));
        no("step(2, 0)", x.step(2, 0));
        no("step(-1, 0)", x.step(-1, 0));
        yes("step(1, 2)", x.step(1, 2));
        yes("step again", x.step(1, 2));
        x.come(0, 0, 0, 1);
        same("it has them", x.worse(4, 2), 1);
        same("a step is no act", x.about(3), 1);
    }

    private static void p30Ends() {
        LikeYears x = of(BOOK);
        same("ends(false, 0)", x.ends(false, 0), 6);
        same("ends(true, 0)", x.ends(true, 0), 6);
        x.step(0, 3);
        same("under", x.ends(false, 0), 21);
        same("over: c alone", x.ends(true, 0), 21);
        x.step(1, 2);
        same("none is over it", x.ends(true, 0), -1);
        same("none is over it, 1", x.ends(true, 1), -1);
        x.give(2, 13);
        same("up", x.ends(false, 0), 43);
        same("low", x.ends(false, 1), 2);
        same("ends(false, 2)", x.ends(false, 2), -1);
        same("ends(true, -1)", x.ends(true, -1), -1);
        same("without cases", of("mark m to 1;").ends(false, 0), -1);
    }

    private static void p31First() {
        LikeYears x = of(BOOK);
        x.step(0, 2);
        x.step(1, 1);
        same("first(20)", x.first(20), 0);
        same("first(30)", x.first(30), 1);
        same("first(40)", x.first(40), 2);
        same("first(-1)", x.first(-1), -1);
        same("first(241)", x.first(241), -1);
        x.give(2, 240);
        same("first(36)", x.first(36), -1);
        same("first(240)", x.first(240), -1);
        LikeYears y = of("mark m to 2;mark n to 2;case p judge 0 in 0 given 5 weight 1 m 1;"
            + "case q judge 0 in 0 given 9 weight 1 n 1;told p over q;");
        y.step(0, 2);
        same("through what is told", y.first(8), 1);
        same("first(9)", y.first(9), -1);
    }

    private static void p32Come() {
        LikeYears x = of(BOOK);
        same("judge -1", x.come(-1, 0, 0, 1), -1);
        same("judge 10", x.come(10, 0, 0, 1), -1);
        same("year -1", x.come(0, -1, 0, 1), -1);
        same("year 100", x.come(0, 100, 0, 1), -1);
        same("given -1", x.come(0, 0, -1, 1), -1);
        same("given 241", x.come(0, 0, 241, 1), -1);
        same("weight 0", x.come(0, 0, 0, 0), -1);
        same("weight 5", x.come(0, 0, 0, 5), -1);
        same("nothing was done", x.about(3), 0);
        x.step(0, 2);
        for (int c = 4; c < 16; c++) {
            same("come", x.come(9, 99, 240, 4), c);
        }
        same("a 17th", x.come(0, 0, 0, 1), -1);
        same("cases", x.about(1), 16);
        same("its steps stay", x.worse(15, 4), 2);
        same("given", x.about(25), 240);
        same("off of its judge", x.off(9) >= 0 ? 1 : 0, 1);
    }

    private static void p33Count() {
        LikeYears x = of("mark m to 2;mark n to 2;case p judge 0 in 0 given 10 weight 1 m 1;"
            + "case q judge 0 in 0 given 20 weight 3 n 1;told p over q;");
        no("it is so already", x.count(0, true));
        no("fault 6 would come of it", x.count(0, false));
        same("nothing was done", x.about(3), 0);
        yes("count(1, false)", x.count(1, false));
        no("it is so already", x.count(1, false));
        no("count(2, true)", x.count(2, true));
        no("count(-1, false)", x.count(-1, false));
        no("count(MIN, false)", x.count(MIN, false));
        yes("count(1, true)", x.count(1, true));
        same("acts", x.about(3), 2);
    }

    private static void p34Give() {
        LikeYears x = of(BOOK);
        yes("give(0, 240)", x.give(0, 240));
        same("given", x.about(10), 240);
        no("it was", x.give(0, 240));
        no("give(0, 241)", x.give(0, 241));
        no("give(0, -1)", x.give(0, -1));
        no("give(4, 0)", x.give(4, 0));
        no("give(-1, 0)", x.give(-1, 0));
        yes("give(0, 0)", x.give(0, 0));
        same("acts", x.about(3), 2);
    }

    private static void p35Undo() {
        LikeYears x = of(BOOK);
        no("none", x.undo());
        x.give(0, 1);
        x.count(0, false);
        x.step(1, 2);
        x.come(0, 0, 7, 1);
        yes("undo come", x.undo());
        same("cases", x.about(1), 4);
        same("its steps stay", x.ends(true, 0), -1);
        yes("undo count", x.undo());
        same("worse", x.worse(0, 1), 1);
        yes("undo give", x.undo());
        same("given", x.about(10), 24);
        no("no more", x.undo());
        for (int i = 0; i < 61; i++) {
            x.give(0, 100 + i);
        }
        same("at most 60", x.about(3), 60);
        for (int i = 0; i < 60; i++) {
            yes("undo", x.undo());
        }
        no("the first is kept no more", x.undo());
        same("and stays done", x.about(10), 100);
        same("none kept", x.about(3), 0);
        for (int i = 0; i < 60; i++) {
            yes("redo", x.redo());
        }
        no("no more", x.redo());
        same("all done again", x.about(10), 160);
    }

    private static void p36Redo() {
        LikeYears x = of(BOOK);
        no("none", x.redo());
        x.step(0, 3);
        x.come(1, 2, 7, 1);
        no("none taken back", x.redo());
        x.give(4, 9);
        x.undo();
        x.undo();
        x.step(0, 0);
        yes("redo come", x.redo());
        same("as it came", x.worse(4, 0), 1);
        same("given as it came", x.about(14), 7);
        yes("redo give", x.redo());
        same("given", x.about(14), 9);
        no("no more", x.redo());
        x.undo();
        no("nothing is done", x.give(4, 7));
        yes("so it can be done again", x.redo());
        x.undo();
        x.give(0, 3);
        no("gone with a new act", x.redo());
        same("acts", x.about(3), 2);
    }

    private static void p37Keep() {
        LikeYears x = of(BOOK);
        same("keep(0)", x.keep(0), 4);
        same("keep(2)", x.keep(2), 4);
        same("keep(3)", x.keep(3), -1);
        same("keep(-1)", x.keep(-1), -1);
        x.come(0, 0, 0, 1);
        same("keep(1)", x.keep(1), 5);
        same("keep(0) again", x.keep(0), 5);
        same("back(2)", x.back(2), 4);
        same("back(0)", x.back(0), 5);
        x.give(0, 1);
        same("acts stay", x.keep(0) == 5 ? x.about(3) : -1, 1);
    }

    private static void p38Back() {
        LikeYears x = of(BOOK);
        same("nothing was kept", x.back(0), -1);
        same("back(3)", x.back(3), -1);
        same("back(-1)", x.back(-1), -1);
        x.keep(0);
        x.step(1, 2);
        x.give(0, 1);
        x.count(1, false);
        x.come(0, 0, 0, 1);
        x.undo();
        same("back(1)", x.back(1), -1);
        same("doing nothing", x.about(3), 2);
        same("back(0)", x.back(0), 4);
        same("given", x.about(10), 24);
        no("again counts", x.count(1, true));
        no("no acts are kept", x.undo());
        no("nor those taken back", x.redo());
        same("the new case's steps stay", x.ends(true, 0), -1);
        x.give(0, 99);
        same("once more", x.back(0), 4);
        same("a box is not used up", x.about(10), 24);
        x.step(0, 3);
        for (int c = 4; c < 16; c++) {
            x.come(1, 2, 3, 4);
        }
        x.keep(2);
        for (int c = 4; c < 16; c++) {
            x.undo();
        }
        x.step(0, 0);
        x.step(1, 0);
        for (int c = 4; c < 16; c++) {
            x.come(5, 6, 7, 1);
        }
        same("like d", x.worse(15, 3), 2);
        x.back(2);
        same("with all its steps", x.worse(15, 2), 1);
        same("with its judge", x.luck(5, 0), -1);
        same("with its year", x.upto(2, 0), 0);
        same("with what it was given", x.about(25), 3);
        x.give(15, 4);
        same("with its weight, up", x.upto(2, 0), 11);
        same("with its weight, low", x.upto(2, 1), 3);
    }

    private static void p39About() {
        LikeYears x = of(BOOK + "told c over d;");
        x.give(3, 7);
        Texts.feed(x, "when 1 least 0 most 0;");
        x.laws();
        Texts.feed(x, "xyz");
        same("marks", x.about(0), 2);
        same("cases", x.about(1), 4);
        same("told lines", x.about(2), 1);
        same("acts", x.about(3), 1);
        same("bytes", x.about(4), 3);
        same("laws", x.about(5), 1);
        for (int what = 6; what < 10; what++) {
            same("about " + what, x.about(what), -1);
        }
        same("about(10)", x.about(10), 24);
        same("about(13)", x.about(13), 7);
        same("about(14)", x.about(14), -1);
        same("about(-1)", x.about(-1), -1);
        same("about(MAX)", x.about(MAX), -1);
        same("about(MIN)", x.about(MIN), -1);
    }

    public static void main(String[] args) {
        p01NewObject();
        p02Feed();
        p03End();
        p04Book();
        p04Faults();
        p04Limits();
        p04ToldAgainst();
        p05Laws();
        p05Faults();
        p05Worth();
        p06Fault();
        p07Worse();
        p08Clash();
        p09Oddest();
        p10Beside();
        p11Kept();
        p12Cost();
        p13Block();
        p14Again();
        p15Grid();
        p16Loses();
        p17Best();
        p18Runs();
        p19Begins();
        p20Off();
        p21Luck();
        p22Upto();
        p23Drift();
        p24Within();
        p25Law();
        p26LawOf();
        p27Moved();
        p28Mercy();
        p29Step();
        p30Ends();
        p31First();
        p32Come();
        p33Count();
        p34Give();
        p35Undo();
        p36Redo();
        p37Keep();
        p38Back();
        p39About();
        System.out.println("PromisesTest: " + asked + " answers, " + wrong + " wrong");
        if (wrong != 0) {
            System.exit(1);
        }
    }
}
