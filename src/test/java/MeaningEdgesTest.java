/** Terms 2 to 6 sentence by sentence: what is like, what there is none of, what is just so much and what is one more. */
public final class MeaningEdgesTest {
    private static final Checks T = new Checks("MeaningEdgesTest");
    private static final long NO = -1000000000000L;

    private static LikeYears of(String... lines) {
        LikeYears x = Texts.withBook(String.join("", lines));
        T.same("fault of " + String.join("", lines), x.fault(0), 0);
        return x;
    }

    private static String c(String name, int judge, int year, int given, int weight, String steps) {
        return "case " + name + " judge " + judge + " in " + year + " given " + given + " weight " + weight
            + (steps.isEmpty() ? "" : " " + steps) + ";";
    }

    /** A case of judge 0 in year 0. */
    private static String c(String name, int given, int weight, String steps) {
        return c(name, 0, 0, given, weight, steps);
    }

    private static void kept(LikeYears x, int fit, int a, long up, long low) {
        T.ratio("kept by " + fit + " of " + a, x.kept(fit, a, 0), x.kept(fit, a, 1), up, low);
    }

    private static void cost(LikeYears x, int fit, long up, long low) {
        T.ratio("cost by " + fit, x.cost(fit, 0), x.cost(fit, 1), up, low);
    }

    // ---- a new object, and a book without cases ----

    private static void newObject() {
        LikeYears[] both = {new LikeYears(), of("mark m to 1;mark n to 1;"), of("")};
        for (int i = 0; i < 3; i++) {
            LikeYears x = both[i];
            int marks = i == 1 ? 2 : 0;
            int[] none = {marks, 0, 0, 0, 0, 0};
            for (int what = 0; what < 6; what++) {
                T.same("about(" + what + ")", x.about(what), none[what]);
            }
            T.same("about(10)", x.about(10), -1);
            T.same("worse(0, 0)", x.worse(0, 0), -1);
            for (int what = 0; what < 3; what++) {
                T.same("clash", x.clash(what), 0);
                T.same("oddest", x.oddest(what), -1);
                T.same("again", x.again(what), what == 2 ? 1 : 0);
                T.same("moved", x.moved(what), what == 2 ? -1 : 0);
                T.ratio("cost", x.cost(what, 0), x.cost(what, 1), 0, 1);
                T.same("kept", x.kept(what, 0, 0), -1);
                T.same("back", x.back(what), -1);
            }
            T.same("beside", x.beside(0), -1);
            T.same("block", x.block(0), -1);
            T.same("best", x.best(), marks == 2 ? 1 : -1);
            T.same("off", x.off(0), 0);
            T.same("luck", x.luck(0, 0), -1);
            T.ratio("upto", x.upto(0, 0), x.upto(99, 1), 0, 1);
            T.ratio("drift", x.drift(0, 0), x.drift(99, 1), 0, 1);
            T.same("within", x.within(), 0);
            T.same("lawOf", x.lawOf(0), -1);
            T.same("mercy", x.mercy(0), -1);
            T.same("mercy", x.mercy(1), -1);
            T.same("ends", x.ends(true, 0), -1);
            T.same("ends", x.ends(false, 1), -1);
            T.same("first", x.first(0), -1);
            T.same("fault", x.fault(0), 0);
            T.same("place", x.fault(1), -1);
            T.no("undo", x.undo());
            T.no("redo", x.redo());
        }
        withMarksAlone(both[1], both[0]);
    }

    private static void withMarksAlone(LikeYears marks, LikeYears fresh) {
        T.ratio("grid", marks.grid(0, 1, 0), marks.grid(0, 1, 1), 0, 1);
        T.ratio("loses", marks.loses(0, 1, 0), marks.loses(0, 1, 1), 0, 1);
        T.ratio("runs", marks.runs(0, 12, 0), marks.runs(1, 1, 1), 0, 1);
        T.same("begins", marks.begins(1, 12), 0);
        T.same("law", marks.law(1, 1, 0, 0, 0), 0);
        T.same("grid without marks", fresh.grid(0, 1, 0), -1);
        T.same("loses without marks", fresh.loses(0, 1, 0), NO);
        T.same("runs without marks", fresh.runs(0, 1, 0), -1);
        T.same("begins without marks", fresh.begins(0, 1), -1);
        T.same("law without marks", fresh.law(0, 0, 0, 0, 0), -1);
        T.same("keep nothing", fresh.keep(0), 0);
        T.same("a case comes to an empty book", fresh.come(9, 99, 240, 4), 0);
        T.same("it is over itself", fresh.worse(0, 0), 2);
        T.same("back to nothing", fresh.back(0), 0);
        T.same("no cases", fresh.about(1), 0);
    }

    // ---- 2: over, worse, like, clash ----

    private static void over() {
        LikeYears x = of("mark p to 11;mark q to 11;", c("a", 1, 1, "p 5 q 5"), c("b", 1, 1, "p 5 q 5"),
            c("d", 1, 1, "p 5 q 6"), c("e", 1, 1, "p 4 q 11"), c("f", 1, 1, "p 11 q 11"), c("g", 1, 1, ""));
        int[][] due = {{2, 2, 0, 0, 0, 1}, {2, 2, 0, 0, 0, 1}, {1, 1, 2, 0, 0, 1}, {0, 0, 0, 2, 0, 1}, {1, 1, 1, 1, 2, 1},
            {0, 0, 0, 0, 0, 2}};
        for (int a = 0; a < 6; a++) {
            for (int b = 0; b < 6; b++) {
                T.same("worse(" + a + ", " + b + ")", x.worse(a, b), due[a][b]);
            }
        }
        x.count(1, false);
        T.same("by the one mark that counts: like", x.worse(0, 2), 2);
        T.same("worse", x.worse(0, 3), 1);
        T.same("not worse", x.worse(3, 0), 0);
        x.count(0, false);
        T.same("no mark counts: all are like", x.worse(5, 4), 2);
        LikeYears six = of("mark a to 1;mark b to 1;mark c to 1;mark d to 1;mark e to 1;mark f to 1;",
            c("x", 1, 1, "a 1 b 1 c 1 d 1 e 1 f 1"), c("y", 1, 1, "a 1 b 1 c 1 d 1 e 1"), c("z", 1, 1, "b 1 c 1 d 1 e 1 f 1"));
        T.same("the sixth mark", six.worse(0, 1), 1);
        T.same("the first mark", six.worse(0, 2), 1);
        T.same("neither", six.worse(1, 2), 0);
        T.same("nor", six.worse(2, 1), 0);
    }

    private static void toldOver() {
        // d, e, f, g lie beside one another by their steps; s is below f, t is above e.
        String marks = "mark p to 11;mark q to 11;";
        String all = marks + c("d", 40, 1, "p 1 q 8") + c("e", 30, 1, "p 3 q 6") + c("f", 20, 1, "p 5 q 4")
            + c("g", 10, 1, "p 7 q 2") + c("s", 50, 1, "p 5 q 3") + c("t", 5, 1, "p 3 q 7");
        LikeYears x = of(all, "told d over e;");
        T.same("told", x.worse(0, 1), 1);
        T.same("not the other way", x.worse(1, 0), 0);
        T.same("t is over e, not over d", x.worse(5, 0), 0);
        x = of(all, "told d over e;told e over f;told f over g;");
        T.same("through two others", x.worse(0, 3), 1);
        T.same("not back", x.worse(3, 0), 0);
        T.same("told, then by steps", x.worse(0, 4), 1);
        T.same("by steps, then told", x.worse(5, 2), 1);
        T.same("by steps, told and by steps", x.worse(5, 4), 1);
        // s with d, e, f; t with e, f, g and s.
        T.same("clash through others", x.clash(0), 7);
        T.same("gaps", x.clash(1), 10 + 20 + 30 + 25 + 15 + 5 + 45);
        LikeYears y = of(all, "told f over g;told e over f;told d over e;");
        for (int a = 0; a < 6; a++) {
            for (int b = 0; b < 6; b++) {
                T.same("in another order: worse(" + a + ", " + b + ")", y.worse(a, b), x.worse(a, b));
            }
        }
        LikeYears z = of(all, "told t over e;told t over e;");
        T.same("told what the steps say, twice", z.worse(5, 1), 1);
    }

    private static void clash() {
        LikeYears x = of("mark m to 1;", c("a", 10, 1, "m 1"), c("b", 10, 1, ""));
        int[][] due = {{10, 0}, {11, 0}, {9, 1}, {0, 10}, {240, 0}};
        for (int[] d : due) {
            x.give(0, d[0]);
            T.same("given " + d[0] + ": pairs", x.clash(0), d[1] > 0 ? 1 : 0);
            T.same("given " + d[0] + ": gaps", x.clash(1), d[1]);
            T.same("given " + d[0] + ": greatest", x.clash(2), d[1]);
            T.same("given " + d[0] + ": beside", x.beside(0), d[1] > 0 ? 1 : -1);
            T.same("given " + d[0] + ": beside", x.beside(1), d[1] > 0 ? 0 : -1);
            T.same("given " + d[0] + ": oddest", x.oddest(0), d[1] > 0 ? 0 : -1);
            T.same("given " + d[0] + ": within", x.within(), d[1] > 0 ? 1 : 0);
        }
        LikeYears like = of(c("a", 5, 1, ""), c("b", 7, 1, ""), c("d", 5, 1, ""), c("e", 8, 1, ""));
        T.same("like ones: each pair once", like.clash(0), 5);
        T.same("gaps", like.clash(1), 2 + 3 + 2 + 1 + 3);
        T.same("greatest", like.clash(2), 3);
        LikeYears apart = of("mark m to 1;mark n to 1;", c("a", 5, 1, "m 1"), c("b", 7, 1, "n 1"));
        T.same("neither over the other", apart.clash(0), 0);
        StringBuilder s = new StringBuilder();
        for (int i = 0; i < 16; i++) {
            s.append(c("c" + (char) ('a' + i), i % 2 * 240, 4, ""));
        }
        LikeYears most = of(s.toString());
        T.same("most pairs", most.clash(0), 64);
        T.same("most gaps", most.clash(1), 64 * 240);
        T.same("greatest gap", most.clash(2), 240);
        T.same("oddest of all like", most.oddest(0), 0);
        T.same("its pairs", most.oddest(1), 8);
        T.same("its gaps", most.oddest(2), 8 * 240);
        T.same("beside the first", most.beside(0), 1);
        T.same("beside the last", most.beside(15), 0);
        T.same("again of all like", most.again(0), 8);
        T.same("the least of two", most.again(1), 0x5555);
        T.same("rivals", most.again(2), 2);
        cost(most, 0, 16L * 4 * 120 * 120, 1);
        cost(most, 1, 8L * 4 * 240, 1);
        cost(most, 2, 120, 1);
    }

    private static void oddest() {
        // Two pairs: of like numbers the greater gaps, then the least number.
        String pairs = "mark p to 11;mark q to 11;" + c("a", 10, 1, "p 1 q 8") + c("b", 20, 1, "p 1 q 8")
            + c("d", 10, 1, "p 5 q 4");
        LikeYears x = of(pairs, c("e", 21, 1, "p 5 q 4"));
        T.same("the greater gaps", x.oddest(0), 2);
        T.same("with one", x.oddest(1), 1);
        T.same("gaps", x.oddest(2), 11);
        LikeYears y = of(pairs, c("e", 20, 1, "p 5 q 4"));
        T.same("alike: the least number", y.oddest(0), 0);
        y.give(0, 21);
        T.same("the others then", y.oddest(0), 2);
        // Most others go ahead of greatest gaps.
        LikeYears z = of(pairs, c("e", 240, 1, "p 5 q 4"), c("f", 21, 1, "p 1 q 8"));
        T.same("two others of small gaps", z.oddest(1), 2);
        T.same("of three alike the greatest gaps", z.oddest(0), 0);
        T.same("its gaps", z.oddest(2), 21);
        LikeYears beside = of(c("a", 10, 1, ""), c("b", 20, 1, ""), c("d", 0, 1, ""), c("e", 20, 1, ""));
        T.same("of like gaps the least number", beside.beside(0), 1);
        T.same("the greatest gap", beside.beside(1), 2);
        T.same("of like gaps the least number", beside.beside(2), 1);
    }

    // ---- 3: kept, cost, block, again ----

    private static void squares() {
        LikeYears x = of("mark m to 1;", c("a", 1, 1, "m 1"), c("b", 2, 2, ""));
        kept(x, 0, 0, 5, 3);
        kept(x, 0, 1, 5, 3);
        cost(x, 0, 2, 3);
        x.give(0, 2);
        kept(x, 0, 0, 2, 1);
        cost(x, 0, 0, 1);
        x.give(0, 3);
        kept(x, 0, 0, 3, 1);
        kept(x, 0, 1, 2, 1);
        x.give(1, 0);
        x.give(0, 0);
        kept(x, 0, 0, 0, 1);
        x.give(1, 240);
        kept(x, 0, 1, 160, 1);
        cost(x, 0, 160 * 160 + 2 * 80 * 80, 1);
        // Weights 2 and 4 with a mean that is not in lowest terms at first: 2 * 1 + 4 * 3 = 14 by 6.
        LikeYears y = of("mark m to 1;", c("a", 1, 2, "m 1"), c("b", 3, 4, ""));
        kept(y, 0, 0, 7, 3);
        cost(y, 0, 16, 3);
        LikeYears one = of(c("a", 7, 3, ""));
        for (int fit = 0; fit < 3; fit++) {
            kept(one, fit, 0, 7, 1);
            cost(one, fit, 0, 1);
        }
        T.same("its block", one.block(0), 1);
        // The greatest lower parts: weights that share nothing.
        LikeYears deep = of("mark p to 11;mark q to 11;", c("a", 0, 4, "p 1 q 9"), c("b", 1, 3, "p 1 q 9"), c("d", 0, 4, "p 3 q 7"),
            c("e", 1, 1, "p 3 q 7"), c("f", 0, 1, "p 5 q 5"), c("g", 1, 2, "p 5 q 5"), c("h", 0, 1, "p 7 q 3"), c("i", 1, 1, "p 7 q 3"));
        cost(deep, 0, 12 * 30 + 4 * 42 + 2 * 70 + 105, 210);
        kept(deep, 0, 0, 3, 7);
        kept(deep, 0, 7, 1, 2);
    }

    private static void gaps() {
        LikeYears x = of("mark m to 1;", c("a", 10, 1, "m 1"), c("b", 20, 1, ""));
        kept(x, 1, 0, 10, 1);
        kept(x, 1, 1, 10, 1);
        cost(x, 1, 10, 1);
        LikeYears y = of("mark m to 1;", c("a", 10, 1, "m 1"), c("b", 20, 2, ""));
        kept(y, 1, 0, 20, 1);
        kept(y, 1, 1, 20, 1);
        cost(y, 1, 10, 1);
        LikeYears z = of("mark m to 1;", c("a", 10, 4, "m 1"), c("b", 20, 3, ""));
        kept(z, 1, 1, 10, 1);
        cost(z, 1, 30, 1);
        // Three like ones: the middle one; four: the lower one of the middle.
        LikeYears like = of(c("a", 1, 1, ""), c("b", 9, 1, ""), c("d", 4, 1, ""));
        kept(like, 1, 0, 4, 1);
        cost(like, 1, 8, 1);
        like.come(0, 0, 6, 1);
        kept(like, 1, 3, 4, 1);
        cost(like, 1, 10, 1);
        T.same("off", like.off(0), 10);
        // Of all that are nearest the least for each: b may stay at its own while a goes down to it.
        LikeYears ends = of("mark m to 2;", c("a", 0, 1, "m 2"), c("b", 240, 1, "m 1"), c("d", 100, 1, ""));
        kept(ends, 1, 0, 100, 1);
        kept(ends, 1, 1, 100, 1);
        kept(ends, 1, 2, 100, 1);
        cost(ends, 1, 240, 1);
    }

    private static void greatest() {
        LikeYears x = of("mark m to 2;", c("a", 10, 4, "m 2"), c("b", 21, 1, "m 1"), c("d", 30, 1, ""));
        kept(x, 2, 0, 20, 1);
        kept(x, 2, 1, 20, 1);
        kept(x, 2, 2, 20, 1);
        cost(x, 2, 10, 1);
        x.give(0, 11);
        kept(x, 2, 0, 41, 2);
        kept(x, 2, 1, 41, 2);
        cost(x, 2, 19, 2);
        x.give(1, 0);
        kept(x, 2, 1, 15, 1);
        cost(x, 2, 15, 1);
        x.give(0, 240);
        x.give(1, 100);
        kept(x, 2, 0, 240, 1);
        cost(x, 2, 0, 1);
        LikeYears told = of("mark m to 1;mark n to 1;", c("a", 0, 1, "m 1"), c("b", 5, 1, "n 1"), "told a over b;");
        kept(told, 2, 0, 5, 2);
        kept(told, 1, 1, 0, 1);
        kept(told, 0, 1, 5, 2);
    }

    /** Sixteen in a row: each kept at its own by squares and by gaps; then the row the other way round. */
    private static void sixteen() {
        StringBuilder s = new StringBuilder("mark p to 3;mark q to 3;");
        for (int i = 0; i < 16; i++) {
            s.append(c("c" + (char) ('a' + i), 16 * i, 1 + i % 4, "p " + i / 4 + " q " + i % 4));
        }
        // Told lines close the row where steps do not: 4 over 3, 8 over 7, 12 over 11.
        s.append("told ce over cd;told ci over ch;told cm over cl;");
        LikeYears x = of(s.toString());
        for (int a = 0; a < 16; a++) {
            kept(x, 0, a, 16 * a, 1);
            kept(x, 1, a, 16 * a, 1);
            kept(x, 2, a, 16 * a, 1);
            T.same("a block each", x.block(a), 1 << a);
            T.same("the last is over all", x.worse(15, a), a == 15 ? 2 : 1);
            T.same("the first is under all", x.worse(a, 0), a == 0 ? 2 : 1);
        }
        for (int fit = 0; fit < 3; fit++) {
            cost(x, fit, 0, 1);
        }
        T.same("none clash", x.again(0), 0);
        for (int i = 0; i < 16; i++) {
            x.give(i, 240 - 16 * i);
        }
        T.same("all pairs clash", x.clash(0), 120);
        T.same("all but one", x.again(0), 15);
        T.same("the first fifteen", x.again(1), 0x7FFF);
        T.same("sixteen sets", x.again(2), 16);
        T.same("one block", x.block(7), 0xFFFF);
        kept(x, 0, 9, 112, 1);
        kept(x, 2, 3, 120, 1);
        cost(x, 2, 120, 1);
    }

    /** The sixteenth case, which came last, in what is told. */
    private static void toldOfTheLast() {
        StringBuilder s = new StringBuilder("mark p to 3;mark q to 3;");
        for (int i = 0; i < 14; i++) {
            s.append(c("c" + (char) ('a' + i), 10, 1, "p 0 q 0"));
        }
        String two = s + c("x", 10, 1, "p 1 q 3") + c("y", 20, 1, "p 3 q 1");
        LikeYears over = of(two, "told y over x;");
        T.same("the last over the one ahead", over.worse(15, 14), 1);
        T.same("none clash", over.clash(0), 0);
        LikeYears under = of(two, "told x over y;");
        T.same("the one ahead over the last", under.worse(14, 15), 1);
        T.same("not back", under.worse(15, 14), 0);
        T.same("they clash", under.clash(0), 1);
        kept(under, 0, 15, 15, 1);
        kept(under, 1, 15, 10, 1);
        T.same("beside", under.beside(15), 14);
        T.same("again", under.again(1), 1 << 14);
        T.same("the least of the last pair", under.oddest(0), 14);
        under.step(0, 1);
        under.step(1, 3);
        T.same("a like one", under.first(19), 14);
        T.same("through what is told", under.first(10), 15);
    }

    private static void block() {
        LikeYears x = of("mark p to 11;mark q to 11;", c("a", 5, 1, "p 1 q 9"), c("b", 5, 2, "p 3 q 7"), c("d", 9, 1, "p 5 q 5"));
        T.same("kept alike: one block", x.block(0), 3);
        T.same("kept alike: one block", x.block(1), 3);
        T.same("another one", x.block(2), 4);
        x.give(2, 5);
        T.same("all alike", x.block(2), 7);
        x.give(0, 4);
        T.same("all apart but like ones", x.block(1), 6);
        x.give(1, 6);
        T.same("three blocks", x.block(0) + 8 * x.block(1) + 64 * x.block(2), 1 + 8 * 2 + 64 * 4);
        LikeYears y = of("mark m to 3;", c("a", 6, 1, "m 3"), c("b", 2, 1, "m 2"), c("d", 4, 1, "m 1"), c("e", 4, 1, ""));
        T.same("of most worth the fewest: d and e stay", y.block(0), 1);
        T.same("b, d and e", y.block(1), 14);
        kept(y, 0, 1, 10, 3);
        y.give(0, 3);
        kept(y, 0, 0, 13, 4);
        T.same("all", y.block(3), 15);
        y.give(1, 4);
        y.give(0, 4);
        T.same("worth 0 parts nothing", y.block(0), 15);
        cost(y, 0, 0, 1);
    }

    private static void again() {
        LikeYears x = of("mark m to 1;", c("a", 10, 1, "m 1"), c("b", 20, 1, ""));
        T.same("one of two", x.again(0), 1);
        T.same("the least number", x.again(1), 1);
        T.same("two such sets", x.again(2), 2);
        LikeYears star = of("mark m to 1;", c("b", 20, 1, ""), c("d", 30, 1, ""), c("a", 10, 1, "m 1"), c("e", 20, 1, ""));
        star.give(1, 20);
        T.same("the middle of a star", star.again(1), 4);
        T.same("there is one such set", star.again(2), 1);
        T.same("one", star.again(0), 1);
        star.give(2, 20);
        T.same("none", star.again(0), 0);
        T.same("the empty set", star.again(1), 0);
        T.same("one set", star.again(2), 1);
        LikeYears square = of(c("a", 10, 1, ""), c("b", 20, 1, ""), c("d", 20, 1, ""), c("e", 10, 1, ""));
        T.same("b and d are less than a and e", square.again(1), 6);
        T.same("two of four", square.again(0), 2);
        T.same("either two", square.again(2), 2);
        LikeYears four = of(c("a", 1, 1, ""), c("b", 2, 1, ""), c("d", 3, 1, ""), c("e", 4, 1, ""));
        T.same("all but one", four.again(0), 3);
        T.same("the least number", four.again(1), 7);
        T.same("four sets", four.again(2), 4);
        StringBuilder s = new StringBuilder("mark p to 7;mark q to 7;");
        for (int i = 0; i < 16; i++) {
            s.append(c("c" + (char) ('a' + i), i % 2, 1, "p " + i / 2 + " q " + (7 - i / 2)));
        }
        LikeYears pairs = of(s.toString());
        T.same("eight pairs", pairs.again(0), 8);
        T.same("the first of each", pairs.again(1), 0x5555);
        T.same("256 sets", pairs.again(2), 256);
    }

    // ---- 4: grids and runs ----

    private static void grids() {
        // By two marks alone: a and b, then the rest below both.
        LikeYears x = of("mark p to 1;mark q to 1;mark r to 1;never q;", c("a", 10, 1, "p 1"), c("b", 20, 1, "q 1"),
            c("d", 30, 1, "r 1"), "told a over d;");
        // p q: d below a and below b: all three at 20.
        T.ratio("grid(0, 1)", x.grid(0, 1, 0), x.grid(0, 1, 1), 200, 1);
        // p r: b below a and d: a with b at 15, d at 30.
        T.ratio("grid(0, 2)", x.grid(0, 2, 0), x.grid(0, 2, 1), 50, 1);
        // q r: a below b and d: nothing clashes.
        T.ratio("grid(1, 2)", x.grid(1, 2, 0), x.grid(1, 2, 1), 0, 1);
        T.same("best", x.best(), 12);
        // What counts is p and r, and a is told over d: a, b, d: b below a and d, d below a: all at 20.
        cost(x, 0, 200, 1);
        T.ratio("loses(0, 1)", x.loses(0, 1, 0), x.loses(0, 1, 1), 0, 1);
        T.ratio("loses(0, 2)", x.loses(0, 2, 0), x.loses(0, 2, 1), -150, 1);
        T.ratio("loses(1, 2)", x.loses(1, 2, 0), x.loses(1, 2, 1), -200, 1);
        x.give(0, 11);
        T.ratio("grid in fractions", x.grid(0, 1, 0), x.grid(0, 1, 1), 542, 3);
        cost(x, 0, 361, 2);
        T.ratio("loses a sixth", x.loses(0, 1, 0), x.loses(0, 1, 1), 1, 6);
        T.ratio("loses whole ones", x.loses(0, 2, 0), x.loses(0, 2, 1), -140, 1);
        x.undo();
        T.same("best", x.best(), 12);
        x.give(0, 30);
        T.same("behind an act another one", x.best(), 2);
        x.undo();
        T.same("taken back", x.best(), 12);
        x.redo();
        T.same("done again", x.best(), 2);
        T.same("one mark", of("mark p to 1;").best(), -1);
        T.same("two marks", of("mark p to 1;mark q to 1;").best(), 1);
        LikeYears y = of("mark p to 1;mark q to 1;mark r to 1;mark s to 1;mark t to 1;mark u to 1;", c("a", 10, 1, "p 1 q 1 r 1 s 1"),
            c("b", 20, 1, "t 1"), c("d", 20, 1, "u 1"));
        T.same("the last grid", y.best(), 45);
        LikeYears like = of("mark p to 1;mark q to 1;mark r to 1;mark s to 1;", c("a", 10, 1, "p 1"), c("b", 20, 1, "s 1"));
        T.same("of like ones the least a, then the least b", like.best(), 3);
        gridsInFractions();
    }

    /** Three pairs, each of which clashes in one grid alone: two of the costs differ by less than one. */
    private static void gridsInFractions() {
        String marks = "mark p to 5;mark q to 5;mark r to 5;";
        String last = c("e", 100, 1, "p 4 q 4 r 4") + c("f", 120, 1, "p 5 q 4 r 4");
        LikeYears x = of(marks, c("a", 10, 1, ""), c("b", 13, 1, "q 1"), c("c", 60, 2, "p 2 q 2 r 2"), c("d", 62, 3, "p 2 q 2 r 3"), last);
        T.ratio("grid(0, 1)", x.grid(0, 1, 0), x.grid(0, 1, 1), 24, 5);
        T.ratio("grid(0, 2)", x.grid(0, 2, 0), x.grid(0, 2, 1), 9, 2);
        T.ratio("grid(1, 2)", x.grid(1, 2, 0), x.grid(1, 2, 1), 200, 1);
        T.same("9 by 2 is less than 24 by 5", x.best(), 2);
        LikeYears y = of(marks, c("a", 10, 1, ""), c("b", 13, 1, "r 1"), c("c", 60, 2, "p 2 q 2 r 2"), c("d", 62, 3, "p 2 q 3 r 2"), last);
        T.same("the other way round", y.best(), 1);
        y.give(1, 12);
        y.give(3, 61);
        T.ratio("grid(0, 1)", y.grid(0, 1, 0), y.grid(0, 1, 1), 2, 1);
        T.ratio("grid(0, 2)", y.grid(0, 2, 0), y.grid(0, 2, 1), 6, 5);
        T.same("6 by 5 is less than 2", y.best(), 2);
    }

    private static void runs() {
        LikeYears x = of("mark m to 11;", c("a", 0, 1, ""), c("b", 10, 1, "m 1"), c("d", 20, 1, "m 5"), c("e", 40, 1, "m 11"));
        // Three: 0 with 10, or 10 with 20: alike, and 4 + 64 is more than 2 + 64.
        long[][] due = {{875, 1, 0}, {200, 1, 64}, {50, 1, 66}, {0, 1, 70}};
        for (int most = 1; most <= 12; most++) {
            long[] d = due[Math.min(most, 4) - 1];
            T.ratio("runs, at most " + most, x.runs(0, most, 0), x.runs(0, most, 1), d[0], d[1]);
            T.same("begins, at most " + most, x.begins(0, most), d[2]);
        }
        x.give(3, 20);
        T.same("like months: no more runs than needed", x.begins(0, 12), 2 + 4);
        T.ratio("at no cost", x.runs(0, 3, 0), x.runs(0, 3, 1), 0, 1);
        x.give(2, 5);
        T.same("falling months are one run", x.begins(0, 12), 2 + 64);
        T.ratio("at the cost of the fall", x.runs(0, 12, 0), x.runs(0, 12, 1), 25, 2);
        LikeYears y = of("mark m to 1;never m;", c("a", 3, 1, ""), c("b", 4, 2, "m 1"), c("d", 4, 2, "m 1"));
        T.same("two steps: one run", y.begins(0, 1), 0);
        T.ratio("of weights", y.runs(0, 1, 0), y.runs(0, 1, 1), 4, 5);
        T.same("two runs, whether it counts or not", y.begins(0, 2), 2);
        LikeYears high = of("mark m to 11;", c("a", 3, 1, "m 11"), c("b", 4, 1, "m 11"));
        T.same("all at one step", high.begins(0, 12), 0);
        T.ratio("at their own cost", high.runs(0, 12, 0), high.runs(0, 12, 1), 1, 2);
        fallingRuns();
        StringBuilder s = new StringBuilder("mark m to 11;");
        for (int step = 0; step < 12; step++) {
            s.append(c("c" + (char) ('a' + step), 10 * step, 1, "m " + step));
        }
        LikeYears all = of(s.toString());
        T.same("twelve runs", all.begins(0, 12), 0xFFE);
        T.ratio("at no cost", all.runs(0, 12, 0), all.runs(0, 12, 1), 0, 1);
        T.same("eleven runs", all.begins(0, 11), 0x7FE);
        T.ratio("two steps in one", all.runs(0, 11, 0), all.runs(0, 11, 1), 50, 1);
        T.same("two runs", all.begins(0, 2), 64);
    }

    private static void fallingRuns() {
        LikeYears two = of("mark m to 1;", c("a", 20, 3, ""), c("b", 10, 1, "m 1"));
        T.same("two that fall are one run", two.begins(0, 12), 0);
        T.ratio("by their weights", two.runs(0, 12, 0), two.runs(0, 12, 1), 75, 1);
        two.give(1, 20);
        T.same("two alike are one run", two.begins(0, 12), 0);
        two.give(1, 21);
        T.same("two that rise are two", two.begins(0, 12), 2);
        LikeYears weights = of("mark m to 3;", c("a", 10, 1, ""), c("b", 12, 4, "m 1"), c("d", 11, 3, "m 2"), c("e", 12, 1, "m 3"));
        // b and d are one at 81 by 7, below e at 12.
        T.same("b with d", weights.begins(0, 12), 2 + 8);
        T.ratio("its cost", weights.runs(0, 3, 0), weights.runs(0, 3, 1), 12, 7);
        T.same("two runs: e with b and d", weights.begins(0, 2), 2);
        T.ratio("its cost", weights.runs(0, 2, 0), weights.runs(0, 2, 1), 15, 8);
        LikeYears deep = of("mark m to 4;", c("a", 30, 1, ""), c("b", 40, 1, "m 1"), c("d", 50, 1, "m 2"), c("e", 60, 1, "m 3"),
            c("f", 0, 4, "m 4"));
        T.same("the last takes all into one", deep.begins(0, 5), 0);
        deep.give(4, 55);
        T.same("the last takes one", deep.begins(0, 5), 2 + 4 + 8);
        LikeYears gone = of("mark m to 5;");
        gone.come(0, 0, 7, 1);
        gone.step(0, 5);
        gone.come(0, 0, 9, 1);
        T.same("two runs", gone.begins(0, 2), 2);
        gone.undo();
        T.same("one", gone.begins(0, 2), 0);
        gone.redo();
        T.same("two again", gone.begins(0, 2), 2);
        gone.undo();
        gone.undo();
        T.same("none is left", gone.begins(0, 2), 0);
        T.ratio("at no cost", gone.runs(0, 2, 0), gone.runs(0, 2, 1), 0, 1);
    }

    // ---- 5: judges, years, a law, mercy ----

    private static void judges() {
        LikeYears x = of(c("a", 1, 0, 10, 1, ""), c("b", 1, 0, 12, 3, ""), c("d", 2, 0, 13, 1, ""), c("e", 2, 0, 14, 1, ""),
            c("f", 0, 0, 12, 1, ""));
        // All are kept at 12: they share 2, 0, 1, 2, 0.
        int[] off = {0, 2, 3, 0, 0, 0, 0, 0, 0, 0};
        for (int judge = 0; judge < 10; judge++) {
            T.same("off(" + judge + ")", x.off(judge), off[judge]);
        }
        T.ratio("two of five that share 3 or more", x.luck(2, 0), x.luck(2, 1), 3, 10);
        T.ratio("2 or more", x.luck(1, 0), x.luck(1, 1), 7, 10);
        T.ratio("one that shares 0 or more", x.luck(0, 0), x.luck(0, 1), 1, 1);
        T.same("no cases", x.luck(3, 0), -1);
        T.same("no cases", x.luck(3, 1), -1);
        LikeYears y = of(c("a", 5, 0, 0, 1, ""), c("b", 5, 0, 240, 4, ""));
        T.ratio("all cases", y.luck(5, 0), y.luck(5, 1), 1, 1);
        T.same("weights", y.off(5), 240);
        LikeYears half = of(c("a", 5, 0, 0, 1, ""), c("b", 6, 0, 240, 4, ""));
        T.ratio("one of two", half.luck(5, 0), half.luck(5, 1), 1, 2);
        T.ratio("both of two", half.luck(6, 0), half.luck(6, 1), 1, 1);
        StringBuilder s = new StringBuilder();
        for (int i = 0; i < 16; i++) {
            s.append(c("c" + (char) ('a' + i), i < 8 ? 1 : 2, 0, i < 8 ? 1 : 0, 1, ""));
        }
        LikeYears most = of(s.toString());
        T.ratio("one choice of 12,870", most.luck(1, 0), most.luck(1, 1), 1, 12870);
        T.ratio("any choice of 12,870", most.luck(2, 0), most.luck(2, 1), 1, 1);
    }

    private static void years() {
        LikeYears x = of("mark m to 2;", c("a", 1, 5, 10, 1, "m 2"), c("b", 1, 6, 20, 1, "m 1"), c("d", 1, 7, 30, 1, ""));
        long[] upto = {0, 0, 50, 200, 200};
        int[] at = {0, 5, 6, 7, 99};
        for (int i = 0; i < 5; i++) {
            T.ratio("upto " + at[i], x.upto(at[i], 0), x.upto(at[i], 1), upto[i], 1);
        }
        long[] drift = {0, 0, -10, 0, 10, 0};
        for (int i = 0; i < 6; i++) {
            T.ratio("drift of " + (3 + i), x.drift(3 + i, 0), x.drift(3 + i, 1), drift[i], 1);
        }
        T.same("pairs within one year", x.within(), 0);
        x.give(1, 21);
        T.ratio("upto in halves", x.upto(6, 0), x.upto(6, 1), 121, 2);
        T.ratio("drift in thirds", x.drift(5, 0), x.drift(5, 1), -31, 3);
        T.ratio("drift in thirds", x.drift(7, 0), x.drift(7, 1), 29, 3);
        T.ratio("drift in thirds", x.drift(6, 0), x.drift(6, 1), 2, 3);
        LikeYears y = of("mark m to 2;", c("a", 1, 0, 10, 3, "m 2"), c("b", 1, 0, 20, 1, "m 1"), c("d", 1, 99, 30, 2, ""),
            c("e", 1, 99, 30, 1, ""));
        T.same("within: a and b", y.within(), 1);
        T.same("all pairs", y.clash(0), 5);
        T.ratio("the first year", y.upto(0, 0), y.upto(0, 1), 75, 1);
        T.ratio("the year ahead of the last", y.upto(98, 0), y.upto(98, 1), 75, 1);
        T.ratio("the last year", y.upto(99, 0), y.upto(99, 1), y.cost(0, 0), y.cost(0, 1));
        T.ratio("weights, below 0", y.drift(0, 0), y.drift(0, 1), -30, 1);
        T.ratio("weights", y.drift(99, 0), y.drift(99, 1), 30, 1);
        LikeYears later = of("mark m to 2;", c("a", 0, 9, 240, 4, "m 2"), c("b", 0, 1, 11, 1, "m 1"), c("d", 0, 1, 10, 1, ""));
        for (int fit = 0; fit < 3; fit++) {
            cost(later, fit, 0, 1);
            T.ratio("as if there were no others, whatever was asked ahead", later.upto(5, 0), later.upto(5, 1), 0, 1);
        }
        later.give(2, 12);
        cost(later, 1, 1, 1);
        T.ratio("b and d clash", later.upto(5, 0), later.upto(5, 1), 1, 2);
        LikeYears through = of("mark p to 2;mark q to 2;", c("a", 0, 1, 1, 1, "p 1"), c("b", 0, 9, 9, 1, "q 1"),
            c("d", 0, 1, 5, 1, ""), "told a over b;");
        T.ratio("a over d by its steps", through.upto(1, 0), through.upto(1, 1), 8, 1);
        LikeYears chain = of("mark p to 9;mark q to 9;", c("a", 0, 1, 1, 1, "p 1 q 8"), c("b", 0, 9, 9, 1, "p 3 q 6"),
            c("d", 0, 1, 5, 1, "p 3 q 5"), "told a over b;");
        T.same("a is over d through b alone", chain.worse(0, 2), 1);
        T.ratio("what is told goes through others", chain.upto(1, 0), chain.upto(1, 1), 8, 1);
        T.ratio("none upto the year ahead", chain.upto(0, 0), chain.upto(0, 1), 0, 1);
    }

    private static void law() {
        LikeYears x = of("mark m to 3;never m;", c("a", 10, 1, ""), c("b", 20, 4, "m 1"), c("d", 30, 1, "m 2"), c("e", 40, 1, "m 3"));
        int[] more = {4, 3, 2, 1};
        for (int step = 0; step < 4; step++) {
            T.same("the step or more", x.law(0, step, 0, 0, 0), more[step]);
        }
        int[][] due = {{10, 40, 0, 0}, {11, 40, 1, 1}, {10, 39, 1, 1}, {11, 39, 2, 2}, {20, 20, 3, 10 + 10 + 20},
            {0, 0, 4, 100}, {240, 240, 4, 860}, {0, 240, 0, 0}, {25, 25, 4, 15 + 5 + 5 + 15}};
        for (int[] d : due) {
            T.same("law " + d[0] + " to " + d[1] + ": how many", x.law(0, 0, d[0], d[1], 0), d[2]);
            T.same("law " + d[0] + " to " + d[1] + ": by how much", x.law(0, 0, d[0], d[1], 1), d[3]);
        }
        T.same("law(0, 4, ..)", x.law(0, 4, 0, 240, 0), -1);
        T.same("most below least", x.law(0, 0, 21, 20, 0), -1);
        T.same("most as least", x.law(0, 1, 20, 20, 1), 30);
        T.same("least over 240", x.law(0, 0, 241, 241, 0), -1);
        T.same("most over 240", x.law(0, 0, 0, 241, 0), -1);
    }

    private static void mercy() {
        LikeYears x = of("mark p to 1;mark q to 1;mark r to 1;never p;never q;never r;", c("a", 10, 1, "q 1"), c("b", 20, 1, "r 1"),
            c("d", 5, 1, "p 1"));
        // All like: 3 pairs. p: a and b are like, d is over both: 3. q: b and d are like, a over both: 2. r: 2 of a and d, b over: 1.
        T.same("the mark", x.mercy(0), 2);
        T.same("pairs then", x.mercy(1), 1);
        T.same("pairs now", x.clash(0), 3);
        x.count(2, true);
        T.same("of the others p or q", x.mercy(1), 0);
        T.same("q", x.mercy(0), 1);
        x.count(1, true);
        T.same("p alone is left", x.mercy(0), 0);
        T.same("none clash then", x.mercy(1), 0);
        x.count(0, true);
        T.same("all count", x.mercy(0), -1);
        T.same("all count", x.mercy(1), -1);
        LikeYears like = of("mark p to 1;mark q to 1;mark r to 1;never q;never r;", c("a", 10, 1, "r 1"), c("b", 20, 1, ""));
        T.same("of like ones the least", like.mercy(0), 1);
        T.same("pairs", like.mercy(1), 1);
        like.give(1, 5);
        T.same("fewer by r", like.mercy(0), 2);
        T.same("none", like.mercy(1), 0);
        LikeYears first = of("mark p to 1;mark q to 1;mark r to 1;never p;never q;never r;", c("a", 10, 1, ""), c("b", 20, 1, "p 1"));
        T.same("the first of all", first.mercy(0), 0);
        T.same("none clash", first.mercy(1), 0);
        LikeYears told = of("mark p to 1;mark q to 1;never p;", c("a", 10, 1, "q 1"), c("b", 20, 1, "p 1"), "told a over b;");
        T.same("what is told stays", told.mercy(1), 1);
    }

    // ---- 6: the new case, acts, boxes ----

    private static void ends(LikeYears x, boolean high, long up, long low) {
        T.ratio("ends " + (high ? "above" : "below"), x.ends(high, 0), x.ends(high, 1), up, low);
    }

    private static void newCase() {
        LikeYears x = of("mark p to 3;mark q to 3;", c("a", 10, 1, ""), c("b", 20, 1, "p 1"), c("d", 25, 1, "q 1"),
            c("e", 40, 1, "p 2 q 2"), c("f", 50, 1, "p 3 q 2"));
        ends(x, false, 10, 1);
        ends(x, true, 10, 1);
        T.same("given less than a like one", x.first(9), 0);
        T.same("given as much", x.first(10), -1);
        T.same("given more", x.first(11), 0);
        x.step(0, 1);
        x.step(1, 1);
        ends(x, false, 25, 1);
        ends(x, true, 40, 1);
        T.same("first(25)", x.first(25), -1);
        T.same("first(24)", x.first(24), 2);
        T.same("first(19)", x.first(19), 1);
        T.same("first(9)", x.first(9), 0);
        T.same("first(40)", x.first(40), -1);
        T.same("first(41)", x.first(41), 3);
        T.same("first(51)", x.first(51), 3);
        x.give(3, 51);
        ends(x, true, 101, 2);
        T.same("by what was given, not by what is kept", x.first(51), 4);
        T.same("first(50)", x.first(50), -1);
        x.step(0, 3);
        x.step(1, 3);
        T.same("none over it", x.ends(true, 0), -1);
        T.same("none over it", x.ends(true, 1), -1);
        ends(x, false, 101, 2);
        x.step(0, 0);
        x.step(1, 0);
        x.give(0, 30);
        ends(x, false, 25, 1);
        ends(x, true, 25, 1);
        x.count(0, false);
        x.count(1, false);
        ends(x, false, 176, 5);
        ends(x, true, 176, 5);
        LikeYears y = of("mark p to 3;mark q to 3;", c("a", 10, 1, "p 3"), c("b", 20, 1, "q 3"));
        T.same("none below it", y.ends(false, 0), -1);
        T.same("none below it", y.ends(false, 1), -1);
        ends(y, true, 10, 1);
        endsInFractions();
        toldAndNew();
    }

    private static void endsInFractions() {
        String marks = "mark p to 3;mark q to 3;mark r to 3;";
        // Two that clash are kept at 7 by 2, three at 10 by 3, one by itself at 3.
        String halves = c("a", 3, 1, "p 1 q 1") + c("b", 4, 1, "p 1 q 1");
        String thirds = c("d", 3, 2, "q 1 r 1") + c("e", 4, 1, "q 1 r 1");
        String whole = c("f", 3, 1, "p 1 r 1");
        for (String text : new String[] {halves + thirds + whole, thirds + whole + halves, whole + thirds + halves,
            whole + halves + thirds}) {
            LikeYears x = of(marks, text);
            x.step(1, 1);
            ends(x, true, 10, 3);
            x.step(1, 0);
            x.step(0, 1);
            ends(x, true, 3, 1);
            x.step(0, 3);
            x.step(1, 3);
            x.step(2, 3);
            ends(x, false, 7, 2);
            x.step(0, 0);
            ends(x, false, 10, 3);
        }
    }

    private static void toldAndNew() {
        LikeYears x = of("mark p to 3;mark q to 3;", c("a", 10, 1, "p 1"), c("b", 20, 1, "q 2"), c("d", 30, 1, "p 2"),
            c("e", 40, 1, "q 3"), "told d over b;told e over d;");
        T.same("as told", x.clash(0), 0);
        x.step(0, 2);
        ends(x, false, 30, 1);
        T.same("what is told over a like one is over it", x.ends(true, 0), 30);
        T.same("first(29): d", x.first(29), 2);
        T.same("first(19): b through d", x.first(19), 1);
        T.same("first(31): d", x.first(31), 2);
        x.step(0, 3);
        T.same("none over it", x.ends(true, 0), -1);
        ends(x, false, 30, 1);
        x.step(0, 1);
        x.step(1, 0);
        ends(x, false, 10, 1);
        T.same("a is like it", x.ends(true, 0), 10);
        x.give(0, 35);
        T.same("first(34): a", x.first(34), 0);
        T.same("first(36): a", x.first(36), 0);
        x.step(0, 0);
        T.same("first(30): all are over it", x.first(30), 1);
        T.same("first(20)", x.first(20), -1);
    }

    private static void stepsOfNewCase() {
        LikeYears x = of("mark m to 5;", c("a", 10, 1, "m 3"));
        T.same("steps 0 at first", x.ends(false, 0), -1);
        T.yes("step", x.step(0, 5));
        T.same("m 5", x.ends(false, 0), 10);
        Texts.feed(x, "mark m to 5;" + c("a", 10, 1, "m 3") + "#");
        T.same("a fault", x.book(), -1);
        T.same("its steps stay", x.ends(false, 0), 10);
        Texts.feed(x, "mark m to 5;" + c("a", 10, 1, "m 3"));
        T.same("another book", x.book(), 2);
        T.same("steps 0 behind it", x.ends(false, 0), -1);
        T.same("as it comes", x.come(1, 2, 3, 4), 1);
        T.same("no step", x.law(0, 1, 0, 0, 0), 1);
        x.step(0, 2);
        T.same("a case has steps of its own", x.law(0, 1, 0, 0, 0), 1);
        x.come(0, 0, 240, 1);
        x.step(0, 4);
        x.come(0, 0, 240, 1);
        T.same("its steps stay as it comes", x.ends(true, 0), 240);
        T.same("those that came at 2", x.law(0, 2, 0, 0, 0), 3);
        T.same("those that came at 4", x.law(0, 4, 0, 0, 0), 1);
        x.come(0, 0, 240, 1);
        T.same("once more at 4", x.law(0, 4, 0, 0, 0), 2);
        x.undo();
        x.undo();
        T.same("its steps stay as an act is taken back", x.come(5, 5, 5, 1), 3);
        T.same("at 4", x.law(0, 4, 0, 0, 0), 1);
    }

    private static void comes() {
        LikeYears x = of("mark m to 5;mark n to 5;never n;", c("a", 3, 3, 30, 3, "m 3 n 3"));
        x.step(0, 5);
        x.step(1, 4);
        T.same("the greatest", x.come(9, 99, 240, 4), 1);
        x.step(0, 0);
        x.step(1, 0);
        T.same("the least", x.come(0, 0, 0, 1), 2);
        T.same("given 240", x.about(11), 240);
        T.same("given 0", x.about(12), 0);
        T.same("judge 9", x.luck(9, 0), 1);
        T.same("judge 0", x.luck(0, 0), 1);
        T.same("m 5", x.law(0, 5, 0, 0, 1), 240);
        T.same("n 4, though it does not count", x.law(1, 4, 0, 0, 1), 240);
        x.give(1, 20);
        T.ratio("years and weights: drift of 99", x.drift(99, 0), x.drift(99, 1), -120, 7);
        T.ratio("drift of 3", x.drift(3, 0), x.drift(3, 1), 120, 7);
        T.same("drift of 0", x.drift(0, 0), 0);
        T.same("acts", x.about(3), 3);
        for (int i = 3; i < 16; i++) {
            T.same("cases up to 16", x.come(1, 1, 1, 1), i);
        }
        T.same("16 cases: no more", x.come(1, 1, 1, 1), -1);
        T.same("acts", x.about(3), 16);
        x.undo();
        T.same("15 cases: one more", x.come(2, 2, 2, 2), 15);
        T.same("no more", x.come(2, 2, 2, 2), -1);
    }

    private static void counts() {
        LikeYears x = of("mark m to 1;mark n to 1;mark o to 1;never o;", c("a", 10, 1, "m 1 o 1"), c("b", 20, 1, "n 1"), "told a over b;");
        T.no("m counts already", x.count(0, true));
        T.no("without m b is over a", x.count(0, false));
        T.same("no act", x.about(3), 0);
        T.yes("o counts", x.count(2, true));
        T.yes("now b is not over a without m", x.count(0, false));
        T.no("without m o must count", x.count(2, false));
        T.same("two acts", x.about(3), 2);
        T.yes("m counts again", x.count(0, true));
        T.yes("then o need not", x.count(2, false));
        T.yes("n need not", x.count(1, false));
        T.no("m must", x.count(0, false));
        T.same("five acts", x.about(3), 5);
        LikeYears like = of("mark m to 1;", c("a", 10, 1, "m 1"), c("b", 20, 1, ""), "told a over b;");
        T.no("like ones would be told over one another", like.count(0, false));
        LikeYears free = of("mark m to 1;", c("a", 10, 1, "m 1"), c("b", 20, 1, ""));
        T.yes("nothing is told", free.count(0, false));
        T.same("they are like", free.worse(1, 0), 2);
        LikeYears chain = of("mark m to 2;mark n to 2;", c("a", 10, 1, "m 1"), c("b", 10, 1, "n 1"), c("d", 10, 1, "n 2"),
            "told a over b;");
        T.no("d is over a then, not told: b is over a", chain.count(0, false));
        T.yes("n need not count", chain.count(1, false));
    }

    private static void gives() {
        LikeYears x = of(c("a", 10, 1, ""), c("b", 20, 1, ""));
        T.no("it was", x.give(0, 10));
        T.yes("0", x.give(0, 0));
        T.no("it was", x.give(0, 0));
        T.yes("240", x.give(0, 240));
        T.no("it was", x.give(0, 240));
        T.no("241", x.give(0, 241));
        T.no("-1", x.give(0, -1));
        T.yes("the last case", x.give(1, 21));
        T.no("no case", x.give(2, 21));
        T.same("acts", x.about(3), 3);
        T.same("given", x.about(10), 240);
        T.same("given", x.about(11), 21);
    }

    private static void acts() {
        LikeYears x = of("mark m to 1;", c("a", 10, 1, "m 1"));
        x.give(0, 11);
        x.count(0, false);
        x.step(0, 1);
        x.come(1, 2, 3, 4);
        T.same("acts kept", x.about(3), 3);
        T.yes("undo", x.undo());
        T.same("acts kept", x.about(3), 2);
        T.same("the case is gone", x.about(1), 1);
        T.yes("undo", x.undo());
        T.no("the mark counts again", x.count(0, true));
        T.same("what is refused is no act", x.about(3), 1);
        T.yes("undo", x.undo());
        T.same("given as it was", x.about(10), 10);
        T.no("no more", x.undo());
        T.no("what is refused leaves those taken back", x.give(0, 10));
        T.no("likewise", x.give(5, 10));
        T.same("likewise", x.come(0, 0, 241, 1), -1);
        x.step(0, 0);
        x.keep(0);
        T.yes("redo", x.redo());
        T.same("given once more", x.about(10), 11);
        T.yes("redo", x.redo());
        T.no("it does not count", x.count(0, false));
        T.yes("redo", x.redo());
        T.same("the case is there", x.about(11), 3);
        T.same("with the step that it came with", x.law(0, 1, 0, 0, 0), 2);
        T.same("its judge", x.luck(1, 0), 1);
        T.no("no more", x.redo());
        T.same("acts kept", x.about(3), 3);
        x.undo();
        x.undo();
        T.yes("a new act", x.give(0, 12));
        T.no("those taken back are gone", x.redo());
        T.same("acts kept", x.about(3), 2);
        T.yes("undo", x.undo());
        T.same("given", x.about(10), 11);
        x.undo();
        T.same("given", x.about(10), 10);
    }

    private static void newActsEachKind() {
        for (int kind = 0; kind < 3; kind++) {
            LikeYears x = of("mark m to 1;", c("a", 10, 1, "m 1"));
            x.give(0, 11);
            x.undo();
            boolean done = kind == 0 ? x.give(0, 12) : kind == 1 ? x.count(0, false) : x.come(0, 0, 5, 1) == 1;
            T.yes("a new act", done);
            T.no("gone with a new act", x.redo());
            T.same("given", x.about(10), kind == 0 ? 12 : 10);
            T.yes("undo", x.undo());
            T.yes("redo", x.redo());
            T.no("no more", x.redo());
        }
    }

    private static void sixtyActs() {
        for (int number : new int[] {59, 60, 61, 62, 75}) {
            LikeYears x = of("mark m to 1;", c("a", 0, 1, "m 1"));
            for (int i = 1; i <= number; i++) {
                x.give(0, i);
            }
            int kept = Math.min(number, 60);
            T.same("acts kept of " + number, x.about(3), kept);
            for (int i = 0; i < kept; i++) {
                T.same("given ahead of undo", x.about(10), number - i);
                T.yes("undo of " + number, x.undo());
            }
            T.no("no more of " + number, x.undo());
            T.same("what is kept no more stays done", x.about(10), number - kept);
            T.same("none kept", x.about(3), 0);
            for (int i = 0; i < kept; i++) {
                T.same("given ahead of redo", x.about(10), number - kept + i);
                T.yes("redo of " + number, x.redo());
            }
            T.no("all are done again", x.redo());
            T.same("given", x.about(10), number);
            T.same("acts kept", x.about(3), kept);
        }
        LikeYears x = of("mark m to 1;", c("a", 0, 1, "m 1"));
        x.come(1, 1, 1, 1);
        x.count(0, false);
        for (int i = 1; i <= 60; i++) {
            x.give(0, i);
        }
        while (x.about(3) > 0) {
            x.undo();
        }
        T.same("the case that came stays", x.about(1), 2);
        T.no("what does not count stays so", x.count(0, false));
        // Those taken back make room: of 60 of which 5 are taken back, one more is the 56th.
        while (x.redo()) {
            T.same("on", x.about(1), 2);
        }
        for (int i = 0; i < 5; i++) {
            x.undo();
        }
        T.same("55", x.about(3), 55);
        x.give(0, 200);
        T.same("56", x.about(3), 56);
        while (x.about(3) > 0) {
            x.undo();
        }
        T.same("back to the first", x.about(10), 0);
    }

    private static void anotherBook() {
        LikeYears x = of("mark m to 3;", c("a", 0, 1, "m 1"));
        x.give(0, 1);
        x.give(0, 2);
        x.undo();
        x.keep(0);
        x.keep(1);
        x.keep(2);
        Texts.feed(x, "when 1 least 5 most 5;");
        x.laws();
        Texts.feed(x, "mark m to 3;" + c("a", 7, 1, "m 1") + c("b", 8, 1, ""));
        T.same("another book", x.book(), 3);
        T.same("acts", x.about(3), 0);
        T.no("undo", x.undo());
        T.no("redo", x.redo());
        for (int box = 0; box < 3; box++) {
            T.same("boxes are empty", x.back(box), -1);
        }
        T.same("laws are none", x.about(5), 0);
        T.same("no law of a case", x.lawOf(0), -1);
        T.same("nothing moves", x.moved(0), 0);
        T.same("given", x.about(10), 7);
        T.same("told lines", x.about(2), 0);
        x.keep(1);
        T.same("one box is kept, not another", x.back(0), -1);
        T.same("nor the third", x.back(2), -1);
        T.same("the one", x.back(1), 2);
        x.end(0);
        T.same("an empty book", x.book(), 0);
        T.same("no marks", x.about(0), 0);
        T.same("no cases", x.about(1), 0);
        T.same("its boxes are empty", x.back(1), -1);
    }

    /** Whatever was asked, told, or begun in a text with a fault, another book has its own answers alone. */
    private static void manyBooks() {
        String[] books = {
            "mark m to 3;mark n to 3;" + c("a", 1, 1, 10, 1, "m 3 n 3") + c("b", 1, 1, 20, 1, "m 2 n 1") + "told a over b;",
            "mark m to 3;mark n to 3;never n;" + c("a", 2, 2, 30, 2, "") + c("b", 2, 2, 30, 2, "") + c("d", 2, 2, 40, 2, ""),
            "mark m to 3;mark n to 3;" + c("a", 3, 3, 50, 3, "") + c("b", 3, 3, 60, 3, "n 1"),
            "mark m to 3;mark n to 3;" + c("a", 4, 4, 7, 1, "n 2"),
            "mark m to 3;mark n to 3;"};
        String[] faults = {"", "mark k to 3;never k;mark l to 3;mark o to 3;" + c("a", 9, 9, 9, 4, "k 3 l 3 o 3") + c("b", 9, 9, 99, 4,
            "k 2 l 2 o 2") + "told a over b;told b over a;", "mark m to 3;" + c("a", 9, 9, 9, 4, "m 3") + "#"};
        for (int i = 0; i < faults.length * books.length; i++) {
            String fault = faults[i % faults.length];
            LikeYears x = new LikeYears();
            for (int j = 0; j < books.length; j++) {
                Texts.feed(x, fault);
                T.same("a fault", x.book() < 0 || fault.isEmpty() ? 1 : 0, 1);
                String text = books[(i + j * 3) % books.length];
                Texts.feed(x, text);
                x.book();
                likeFresh(x, of(text));
                x.step(0, 3);
                x.step(1, 2);
            }
        }
    }

    private static void likeFresh(LikeYears x, LikeYears fresh) {
        LikeYears[] both = {x, fresh};
        long[][] got = new long[2][];
        for (int i = 0; i < 2; i++) {
            LikeYears y = both[i];
            got[i] = new long[] {y.about(0), y.about(1), y.about(2), y.about(3), y.clash(0), y.clash(1), y.again(1), y.again(2),
                y.cost(0, 0), y.cost(1, 0), y.cost(2, 0), y.kept(0, 0, 0), y.kept(1, 1, 0), y.off(1), y.off(2), y.best(),
                y.mercy(0), y.ends(true, 0), y.ends(false, 0), y.law(0, 1, 0, 0, 1), y.law(1, 1, 0, 0, 1), y.law(1, 2, 0, 0, 1),
                y.worse(0, 1), y.block(0), y.luck(2, 1), y.begins(1, 3), y.upto(3, 0), y.drift(2, 0), y.about(10)};
        }
        for (int i = 0; i < got[0].length; i++) {
            T.same("answer " + i + " behind another book", got[0][i], got[1][i]);
        }
    }

    private static void latestFault() {
        String[] good = {"mark m to 1;", "when 1 least 0 most 0;"};
        String[] bad = {"mark m to 12;", "when 1 least 0 most 241;"};
        int[] place = {10, 20};
        for (int first = 0; first < 2; first++) {
            for (int then = 0; then < 2; then++) {
                LikeYears x = new LikeYears();
                Texts.feed(x, bad[first]);
                T.same("a fault", first == 0 ? x.book() : x.laws(), -1);
                T.same("a number that can't be", x.fault(0), 4);
                T.same("its place", x.fault(1), place[first]);
                Texts.feed(x, good[then]);
                T.same("good", then == 0 ? x.book() : x.laws(), 1);
                T.same("without", x.fault(0), 0);
                T.same("no place", x.fault(1), -1);
                Texts.feed(x, bad[then]);
                T.same("a fault again", then == 0 ? x.book() : x.laws(), -1);
                T.same("fault", x.fault(0), 4);
                T.same("place", x.fault(1), place[then]);
            }
        }
    }

    private static void manyLaws() {
        LikeYears x = of("mark m to 3;", c("a", 10, 1, "m 2"));
        for (int i = 0; i < 16; i++) {
            Texts.feed(x, "when 0" + " or 0".repeat(40 - i) + " or m=" + i % 4 + " least " + i + " most " + i + ";");
            T.same("laws", x.laws(), 1);
            T.same("its law", x.lawOf(0), i % 4 == 2 ? 0 : -1);
            T.same("by how much", x.moved(1), i % 4 == 2 ? Math.abs(10 - i) : 0);
        }
    }

    private static void boxes() {
        LikeYears x = of("mark m to 3;mark n to 3;", c("a", 1, 11, 10, 1, "m 1"));
        T.same("keep(0)", x.keep(0), 1);
        x.step(0, 3);
        x.step(1, 2);
        x.come(2, 22, 20, 2);
        x.count(1, false);
        T.same("keep(1)", x.keep(1), 2);
        x.give(0, 100);
        x.count(0, false);
        x.step(0, 1);
        x.step(1, 1);
        x.come(3, 33, 30, 3);
        T.same("keep(2)", x.keep(2), 3);
        x.undo();
        T.same("acts stay as a box is kept", x.about(3), 4);
        Texts.feed(x, "when given=100 least 0 most 99;");
        x.laws();
        T.same("back(0)", x.back(0), 1);
        T.same("no acts", x.about(3), 0);
        T.no("none to take back", x.undo());
        T.no("none to do again", x.redo());
        T.same("given", x.about(10), 10);
        T.no("m counts", x.count(0, true));
        T.no("n counts", x.count(1, true));
        T.same("laws stay", x.about(5), 1);
        T.same("steps of the new case stay", x.ends(false, 0), 10);
        T.same("back(1)", x.back(1), 2);
        T.yes("n does not count", x.count(1, true));
        x.undo();
        T.no("m counts", x.count(0, true));
        T.same("judge 2", x.luck(2, 0) > 0 ? 1 : 0, 1);
        T.same("m 3", x.law(0, 3, 0, 0, 1), 20);
        T.same("n 2", x.law(1, 2, 0, 0, 1), 20);
        T.same("back(2)", x.back(2), 3);
        T.same("given 100", x.about(10), 100);
        T.same("n 1 or more", x.law(1, 1, 0, 0, 1), 50);
        T.same("its law", x.lawOf(0), 0);
        x.give(0, 5);
        x.give(2, 6);
        T.same("a box is not changed by acts", x.back(2), 3);
        T.same("given", x.about(10), 100);
        T.same("given", x.about(12), 30);
        x.give(2, 6);
        T.same("kept anew", x.keep(2), 3);
        x.give(2, 7);
        x.back(2);
        T.same("as it was kept last", x.about(12), 6);
        x.back(1);
        T.same("the others stay as they were", x.about(1), 2);
        x.step(0, 0);
        x.step(1, 0);
        x.come(9, 99, 1, 1);
        x.back(2);
        T.same("steps of its own", x.law(0, 1, 0, 0, 0), 3);
        T.same("year of its own", x.drift(99, 0), 0);
        T.same("weight of its own: 100, 20 * 2, 6 * 3", x.kept(0, 0, 0), 79);
        T.same("by 3", x.kept(0, 0, 1), 3);
    }

    public static void main(String[] args) {
        newObject();
        over();
        toldOver();
        clash();
        oddest();
        squares();
        gaps();
        greatest();
        sixteen();
        toldOfTheLast();
        block();
        again();
        grids();
        runs();
        judges();
        years();
        law();
        mercy();
        newCase();
        stepsOfNewCase();
        comes();
        counts();
        gives();
        acts();
        newActsEachKind();
        sixtyActs();
        anotherBook();
        manyBooks();
        latestFault();
        manyLaws();
        boxes();
        T.finish();
    }
}
