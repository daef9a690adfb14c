import java.lang.reflect.Constructor;
import java.lang.reflect.Field;
import java.lang.reflect.Method;
import java.lang.reflect.Modifier;
import java.nio.file.Files;
import java.nio.file.Path;
import java.util.ArrayList;
import java.util.List;
import java.util.Set;
import java.util.TreeSet;
import java.util.regex.Matcher;
import java.util.regex.Pattern;

/** What of LANGUAGE.md can be seen from the text of the program and by reflection. Argument: the program's file. */
public final class LanguageTest {
    private static final Set<String> LIBRARY = Set.of("String", "StringBuilder", "Integer", "Long", "Math", "System", "ArrayList", "List");

    public static void main(String[] args) throws Exception {
        String file = args.length > 0 ? args[0] : "src/main/java/BenchTowels.java";
        String whole = Files.readString(Path.of(file));
        String code = bare(whole);
        forbidden(code);
        names(code);
        lengths(code);
        face();
        fields();
        Due.is("signs of the file above 127", whole.chars().filter(c -> c > 127).count(), 0);
        Due.end("LanguageTest");
    }

    /** The text without comments, and with nothing inside its texts and signs. */
    private static String bare(String text) {
        String s = text.replaceAll("(?s)/\\*.*?\\*/", " ").replaceAll("//[^\n]*", "");
        return s.replaceAll("\"[^\"\n]*\"", "\"\"").replaceAll("'(\\\\.|[^'])'", "' '");
    }

    private static void forbidden(String code) {
        String[] words = {"throw", "throws", "try", "catch", "finally", "synchronized", "assert", "import", "package",
            "protected", "volatile", "native", "transient", "var", "yield", "Object", "equals", "hashCode", "toString"};
        for (String w : words) Due.is("uses of " + w, count(code, "\\b" + w + "\\b"), 0);
        Due.is("lambdas", count(code, "->"), 0);
        Due.is("method references", count(code, "::"), 0);
        Due.is("annotations", count(code, "@"), 0);
        Due.is("names that end in Exact", count(code, "Exact\\b"), 0);
        Due.is("texts joined by +", count(code, "\"\"\\s*\\+|\\+\\s*\"\""), 0);
        Due.is("loops without a bound", count(code, "while \\(true\\)|for \\(;;"), 0);
        Due.is("static that is neither final, a class nor a method",
            count(code, "\\bstatic (?!final|class)[\\w\\[\\]<>]+ \\w+\\s*[;=]"), 0);
        Due.is("classes, some twelve", count(code, "\\bclass ") > 12 ? 1 : 0, 0);
    }

    private static long count(String code, String of) {
        return Pattern.compile(of).matcher(code).results().count();
    }

    // Names with a capital ahead are the program's own classes, its constants or the library that is listed.
    private static void names(String code) {
        Set<String> own = new TreeSet<>();
        Matcher m = Pattern.compile("\\bclass (\\w+)").matcher(code);
        while (m.find()) own.add(m.group(1));
        m = Pattern.compile("\\b([A-Z]\\w*[a-z]\\w*)\\b").matcher(code);
        while (m.find()) {
            String name = m.group(1);
            Due.is("a name that is not listed: " + name, own.contains(name) || LIBRARY.contains(name) ? 0 : 1, 0);
        }
    }

    private static void lengths(String code) {
        Matcher m = Pattern.compile("(?m)^( +)(?:[\\w\\[\\]]+ )+(\\w+)\\(([^)]*)\\) \\{\n(?s:.*?)\n\\1\\}").matcher(code);
        int methods = 0;
        while (m.find()) {
            methods++;
            Due.is("lines of " + m.group(2), m.group().lines().count() > 40 ? 1 : 0, 0);
            Due.is("parameters of " + m.group(2), m.group(3).split(",").length > 7 ? 1 : 0, 0);
        }
        Due.is("methods found", methods > 100 ? 1 : 0, 1);
    }

    private static void face() {
        String[] due = {"set 4", "setOf 2", "change 3", "remake 2", "machine 3", "machineOf 2", "tire 2", "ends 1", "anew 0",
            "state 1", "feed 2", "rules 0", "minute 0", "on 1", "when 1", "weightFor 1", "machineFor 1", "gather 1",
            "gathered 2", "free 2", "busiest 1", "best 1", "ith 2", "ways 1", "train 2", "bars 2", "game 1", "play 1",
            "report 3", "forget 0", "span 1", "liar 0", "seed 1", "lot 0", "times 2", "prove 1", "row 2", "alterRow 3",
            "judge 0", "sheet 3", "write 3", "item 3", "goAll 3", "wouldBe 3", "shelf 3", "taken 2", "act 3", "trace 1",
            "many 1", "keep 0", "again 0"};
        List<String> left = new ArrayList<>(List.of(due));
        for (Method m : BenchTowels.class.getDeclaredMethods()) {
            if (Modifier.isPrivate(m.getModifiers())) {
                for (String d : due) Due.is("private, by a public name: " + m, d.startsWith(m.getName() + " ") ? 1 : 0, 0);
                continue;
            }
            Due.is("not of the face: " + m, left.remove(m.getName() + " " + m.getParameterCount()) ? 0 : 1, 0);
            boolean plain = m.getReturnType() == int.class && Modifier.toString(m.getModifiers()).equals("public");
            Due.is("not public int alone: " + m, plain ? 0 : 1, 0);
        }
        Due.is("missing: " + left, left.size(), 0);
        Constructor<?>[] made = BenchTowels.class.getDeclaredConstructors();
        Due.is("constructors", made.length, 1);
        Due.is("parameters of it", made[0].getParameterCount(), 0);
        Due.is("public final", BenchTowels.class.getModifiers(), Modifier.PUBLIC | Modifier.FINAL);
    }

    private static void fields() {
        List<Class<?>> all = new ArrayList<>(List.of(BenchTowels.class.getDeclaredClasses()));
        for (Class<?> c : all) {
            boolean well = Modifier.isStatic(c.getModifiers()) && Modifier.isPrivate(c.getModifiers());
            Due.is("not private static: " + c, well ? 0 : 1, 0);
        }
        all.add(BenchTowels.class);
        for (Class<?> c : all) {
            int own = 0;
            for (Field f : c.getDeclaredFields()) {
                boolean fixed = Modifier.isStatic(f.getModifiers());
                if (!fixed) own++;
                Due.is("static, not final: " + f, fixed && !Modifier.isFinal(f.getModifiers()) ? 1 : 0, 0);
                boolean open = c == BenchTowels.class && !Modifier.isPrivate(f.getModifiers());
                boolean constant = List.of("BAD", "FULL", "NONE", "STATE").contains(f.getName());
                Due.is("open: " + f, open && !constant ? 1 : 0, 0);
            }
            Due.is("fields of " + c, own > 20 ? 1 : 0, 0);
        }
    }
}
