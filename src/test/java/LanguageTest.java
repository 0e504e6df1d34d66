import java.io.IOException;
import java.lang.reflect.Field;
import java.lang.reflect.Method;
import java.lang.reflect.Modifier;
import java.nio.file.Files;
import java.nio.file.Path;
import java.util.ArrayList;
import java.util.Arrays;
import java.util.HashSet;
import java.util.List;
import java.util.Set;
import java.util.regex.Matcher;
import java.util.regex.Pattern;

/** The face of the class, and those rules of LANGUAGE.md that a look at the source can show. */
public final class LanguageTest {
    private static final String[] FACE = {
        "int feed(int, int, int, int, int)", "int end(int)", "int book()", "int laws()", "int fault(int)",
        "int worse(int, int)", "int clash(int)", "int oddest(int)", "int beside(int)",
        "long kept(int, int, int)", "long cost(int, int)", "int block(int)", "int again(int)",
        "long grid(int, int, int)", "long loses(int, int, int)", "int best()", "long runs(int, int, int)",
        "int begins(int, int)", "int off(int)", "long luck(int, int)", "long upto(int, int)",
        "long drift(int, int)", "int within()", "int law(int, int, int, int, int)", "int lawOf(int)",
        "int moved(int)", "int mercy(int)", "boolean step(int, int)", "long ends(boolean, int)",
        "int first(int)", "int come(int, int, int, int)", "boolean count(int, boolean)",
        "boolean give(int, int)", "boolean undo()", "boolean redo()", "int keep(int)", "int back(int)",
        "int about(int)"};
    private static final String[] BANNED = {"throw", "try", "catch", "synchronized", "assert", "instanceof", "->", "::",
        "System.out", "System.nanoTime", "System.currentTimeMillis", "Random", "Thread", "Exact(", "hashCode",
        "import java.io", "import java.nio", "double", "float"};
    /** What the class uses of the library that LANGUAGE.md lists. */
    private static final Set<String> LIBRARY = Set.of("Arrays.fill", "System.arraycopy", "Integer.bitCount", "Math.min",
        "Math.max", "Math.abs", "Long.compare");
    private static int wrong;

    private static void check(boolean good, String what) {
        if (!good) {
            wrong++;
            System.out.println(what);
        }
    }

    private static String told(Method m) {
        List<String> types = new ArrayList<>();
        for (Class<?> t : m.getParameterTypes()) {
            types.add(t.getSimpleName());
        }
        return m.getReturnType().getSimpleName() + " " + m.getName() + "(" + String.join(", ", types) + ")";
    }

    private static void face() {
        Set<String> due = new HashSet<>(Arrays.asList(FACE));
        Set<String> names = new HashSet<>();
        for (Method m : LikeYears.class.getDeclaredMethods()) {
            if (Modifier.isPublic(m.getModifiers())) {
                check(due.remove(told(m)) && !Modifier.isStatic(m.getModifiers()), "not in the face: " + m);
                names.add(m.getName());
            } else {
                check(Modifier.isPrivate(m.getModifiers()), "seen outside: " + m);
            }
        }
        check(due.isEmpty(), "missing: " + due);
        for (Field f : LikeYears.class.getDeclaredFields()) {
            boolean none = f.getName().equals("NONE") && Modifier.isPublic(f.getModifiers());
            check(none || Modifier.isPrivate(f.getModifiers()), "seen outside: " + f);
        }
        check(Modifier.isFinal(LikeYears.class.getModifiers()), "not final");
        check(LikeYears.class.getDeclaredConstructors().length == 1, "constructors");
        inside(names);
    }

    private static void inside(Set<String> names) {
        Class<?>[] classes = LikeYears.class.getDeclaredClasses();
        check(classes.length <= 12, "classes: " + classes.length);
        for (Class<?> c : LikeYears.class.getNestMembers()) {
            int fields = 0;
            for (Field f : c.getDeclaredFields()) {
                fields += Modifier.isStatic(f.getModifiers()) ? 0 : 1;
                check(!Modifier.isStatic(f.getModifiers()) || Modifier.isFinal(f.getModifiers()), "static state: " + f);
            }
            check(fields <= 20, "fields of " + c + ": " + fields);
            check(c == LikeYears.class || Modifier.isStatic(c.getModifiers()), "not static: " + c);
            for (Method m : c.getDeclaredMethods()) {
                check(m.getParameterCount() <= 7, "parameters: " + m);
                check(c == LikeYears.class || !names.contains(m.getName()), "bears a public name: " + m);
            }
        }
    }

    private static void source(String text) {
        String code = text.replaceAll("(?s)/\\*.*?\\*/", "").replaceAll("//[^\n]*", "");
        for (String word : BANNED) {
            String whole = Character.isLetter(word.charAt(0)) ? "\\b" + Pattern.quote(word) : Pattern.quote(word);
            check(!Pattern.compile(whole + (word.matches("\\w+") ? "\\b" : "")).matcher(code).find(), "banned: " + word);
        }
        Matcher imports = Pattern.compile("import ([\\w.]+);").matcher(code);
        while (imports.find()) {
            check(imports.group(1).equals("java.util.Arrays"), "import " + imports.group(1));
        }
        check(!code.matches("(?s).*\\bwhile\\b.*") && !code.contains("for (;;)"), "a loop without a counter or a bound");
        check(text.chars().allMatch(c -> c == 10 || c >= 32 && c < 127), "a sign that is not 1 to 127");
        library(code);
        methods(text.split("\n"));
    }

    /** Arrays.fill is over numbers alone; what is made are own classes and arrays. */
    private static void library(String code) {
        Matcher uses = Pattern.compile("\\b([A-Z][a-z]\\w*)\\.([a-z]\\w*)\\(").matcher(code);
        Set<String> own = new HashSet<>();
        for (Class<?> c : LikeYears.class.getNestMembers()) {
            own.add(c.getSimpleName());
        }
        while (uses.find()) {
            String use = uses.group(1) + "." + uses.group(2);
            check(own.contains(uses.group(1)) || LIBRARY.contains(use), "not of the library: " + use);
        }
        Matcher fills = Pattern.compile("Arrays\\.fill\\((\\w+),").matcher(code);
        while (fills.find()) {
            String row = "\\b(int|long|short|byte|char)\\[\\] " + fills.group(1) + "\\b";
            check(Pattern.compile(row).matcher(code).find(), "filled, but no numbers: " + fills.group(1));
        }
        Matcher made = Pattern.compile("\\bnew (\\w+)(.)").matcher(code);
        while (made.find()) {
            check(made.group(2).equals("[") || own.contains(made.group(1)), "made: " + made.group(1));
        }
    }

    /** A method begins with a line that ends in ") {" at a member's depth and ends with a brace there. */
    private static void methods(String[] lines) {
        for (int i = 0; i < lines.length; i++) {
            Matcher m = Pattern.compile("^( {4}| {8})\\w[^=]*\\) \\{$").matcher(lines[i]);
            boolean starts = m.matches() && !lines[i].trim().matches("(if|for|while|switch|\\}).*");
            for (int j = i; starts && j < lines.length; j++) {
                if (lines[j].equals(m.group(1) + "}")) {
                    check(j - i < 60, "long method: " + lines[i].trim());
                    break;
                }
            }
            check(lines[i].length() <= 130, "long line: " + lines[i]);
        }
    }

    public static void main(String[] args) throws IOException {
        face();
        source(Files.readString(Path.of("src/main/java/LikeYears.java")));
        System.out.println("LanguageTest: " + wrong + " wrong");
        if (wrong != 0) {
            System.exit(1);
        }
    }
}
