import java.lang.reflect.InvocationTargetException;
import java.lang.reflect.Method;
import java.lang.reflect.Modifier;
import java.util.ArrayList;
import java.util.Arrays;
import java.util.Comparator;
import java.util.List;
import java.util.Random;

/**
 * Runs of calls by chance (always the same ones) on a BenchTowels and on the Model; all answers must be alike, and
 * none may throw. Arguments: runs to make (1000), first seed (1).
 */
public final class ModelTest {
    private static final String[] WORDS = {"set", "alone", "shared", "paired", "held", "unasked", "lift", "ease", "wait",
        "if", "or", "and", "not", "minute", "weight", "tired", "left", "number", "(", ")", "<", "=", ">", ";", "0", "3",
        "12", "9999", "10000", "00001", "a", "weights", "\u00ff", "\t", "-", "\0", "unaskedly", "ALONE"};

    private final Random random;
    private final BenchTowels real = new BenchTowels();
    private final Model model = new Model();
    private final List<String> told = new ArrayList<>();
    private static int calls = 0, sharp = 0;

    private ModelTest(long seed) {
        random = new Random(seed);
    }

    public static void main(String[] args) throws Exception {
        int runs = args.length > 0 ? Integer.parseInt(args[0]) : 1000;
        long first = args.length > 1 ? Long.parseLong(args[1]) : 1;
        List<Method> methods = new ArrayList<>();
        for (Method m : BenchTowels.class.getDeclaredMethods()) {
            if (Modifier.isPublic(m.getModifiers())) methods.add(m);
        }
        methods.sort(Comparator.comparing(Method::getName));
        if (methods.size() != 51) throw new IllegalStateException("methods of the face: " + methods.size());
        for (long seed = first; seed < first + runs; seed++) {
            String wrong = new ModelTest(seed).run(methods);
            if (wrong == null) continue;
            System.out.println("run of seed " + seed + ": " + wrong);
            System.exit(1);
        }
        System.out.println(calls + " calls, " + sharp + " of them no refusal, are answered as the model answers them");
    }

    private String run(List<Method> methods) throws Exception {
        // How wild the arguments of this run are, and how seldom the dear calls come.
        int wild = random.nextInt(3) == 0 ? 25 : 3;
        begin(methods);
        for (int i = 0; told.size() < 500 && i < 3000; i++) {
            if (random.nextInt(25) == 0) {
                String wrong = tellRules(methods);
                if (wrong != null) return wrong;
                continue;
            }
            Method m = methods.get(random.nextInt(methods.size()));
            if (isDear(m.getName()) && random.nextInt(4) != 0) continue;
            if (isRough(m.getName()) && random.nextInt(3) != 0) continue;
            String wrong = compare(m, arguments(m, wild));
            if (wrong != null) return wrong;
        }
        return null;
    }

    private static boolean isDear(String name) {
        return List.of("best", "ith", "ways", "train", "bars", "game", "play", "prove").contains(name);
    }

    private static boolean isRough(String name) {
        return List.of("anew", "again", "forget", "rules", "feed").contains(name);
    }

    private void begin(List<Method> methods) throws Exception {
        int sets = random.nextInt(7);
        for (int i = 0; i < sets; i++) {
            compare(find(methods, "set"), new Object[] {1 + random.nextInt(5), random.nextInt(6), 1 + random.nextInt(9), random.nextInt(3)});
        }
        for (int m = 0; m < 6; m++) {
            int minutes = random.nextInt(65536) & (random.nextBoolean() ? random.nextInt(65536) : 65535);
            if (random.nextInt(3) > 0) compare(find(methods, "machine"), new Object[] {m, 1, minutes});
        }
        compare(find(methods, "ends"), new Object[] {1 + random.nextInt(16)});
    }

    private static Method find(List<Method> methods, String name) {
        for (Method m : methods) {
            if (m.getName().equals(name)) return m;
        }
        throw new IllegalStateException(name);
    }

    private String compare(Method m, Object[] with) throws Exception {
        told.add(m.getName() + Arrays.toString(with));
        calls++;
        Object due = Model.class.getMethod(m.getName(), m.getParameterTypes()).invoke(model, with);
        Object got;
        try {
            got = m.invoke(real, with);
        } catch (InvocationTargetException e) {
            return told + " threw " + e.getCause();
        }
        if ((Integer) got >= 0) sharp++;
        return got.equals(due) ? null : told + " answered " + got + ", due is " + due;
    }

    private int pick(int least, int most) {
        return least + random.nextInt(most - least + 1);
    }

    private Object[] arguments(Method m, int wild) {
        Class<?>[] types = m.getParameterTypes();
        Object[] with = new Object[types.length];
        for (int i = 0; i < types.length; i++) {
            if (types[i] == long.class) with[i] = random.nextLong();
            else with[i] = random.nextInt(100) < wild ? wildNumber() : number(m.getName(), i, with);
        }
        return with;
    }

    private int wildNumber() {
        int[] some = {-1, -2, 0, 1, 3, 5, 6, 7, 8, 9, 10, 12, 15, 16, 17, 20, 21, 40, 41, 63, 64, 999, 1000, 65535, 65536,
            Integer.MIN_VALUE, Integer.MAX_VALUE, Integer.MAX_VALUE - 3, random.nextInt()};
        return some[random.nextInt(some.length)];
    }

    private int someSets() {
        int many = Math.max(1, model.many(0));
        int bits = random.nextInt(1 << many);
        return random.nextInt(4) == 0 ? bits : bits & random.nextInt(1 << many);
    }

    private int number(String name, int i, Object[] with) {
        int s = pick(0, Math.max(0, model.many(0) - 1));
        switch (name) {
            case "set": return new int[] {pick(1, 5), pick(0, 5), pick(1, 9), pick(0, 2)}[i];
            case "setOf": return i == 0 ? s : pick(0, 8);
            case "change": return i == 0 ? s : i == 1 ? pick(1, 4) : pick(0, 9);
            case "remake": return i == 0 ? s : pick(1, 5);
            case "machine":
                if (i < 2) return i == 0 ? pick(0, 5) : pick(0, 1);
                return (Integer) with[1] == 1 ? random.nextInt(65536) & random.nextInt(65536) : pick(0, 9);
            case "machineOf": return i == 0 ? pick(0, 5) : pick(0, 1);
            case "tire": return i == 0 ? pick(0, 2) : pick(0, 9);
            case "ends": return pick(1, 16);
            case "state": return pick(0, 7);
            case "feed": return pick(1, 8);
            case "on": return pick(0, 16);
            case "when": case "weightFor": case "machineFor": return s;
            case "gather": return someSets();
            case "gathered": return i == 0 ? someSets() | 1 << s : s;
            case "free": return i == 0 ? pick(0, 5) : pick(1, random.nextBoolean() ? 3 : 16);
            case "busiest": return pick(0, 1);
            case "best": case "ways": case "prove": return pick(0, random.nextInt(4) == 0 ? 4 : 3);
            case "ith": return i == 0 ? pick(0, random.nextInt(4) == 0 ? 4 : 3) : pick(0, 3);
            case "train": case "bars": return i == 0 ? pick(0, random.nextInt(4) == 0 ? 4 : 3) : someSets();
            case "game": case "play": return pick(1, random.nextInt(4) == 0 ? 4 : 3);
            case "report": return i == 0 ? pick(0, 15) : pick(i == 2 ? Math.min(4, Math.max(0, (Integer) with[1])) : 0, 4);
            case "span": return pick(0, 3);
            case "times": return i == 0 ? pick(1, 40) : pick(0, 40);
            case "seed": return random.nextInt();
            default: return hostNumber(name, i, s);
        }
    }

    private int hostNumber(String name, int i, int s) {
        int small = random.nextBoolean() ? 1 : 3;
        switch (name) {
            case "row": return i == 0 ? pick(0, 3) : pick(0, 2);
            case "alterRow": return i == 0 ? pick(0, 3) : i == 1 ? pick(0, 2) : pick(0, 6);
            case "sheet": return new int[] {pick(0, small), small == 1 ? 0 : pick(-1, 4), pick(-1, 12)}[i];
            case "write":
                if (i == 2) return random.nextInt(5) == 0 ? random.nextInt() : pick(0, 6);
                return i == 0 ? pick(0, small) : pick(0, 8);
            case "item": return new int[] {pick(0, small), small == 1 ? 0 : pick(0, 4), pick(0, 8)}[i];
            case "goAll": case "wouldBe": return new int[] {pick(0, small), pick(0, 6), pick(0, 4)}[i];
            case "shelf": return new int[] {pick(0, 3), pick(0, 2), random.nextBoolean() ? s : pick(0, 3)}[i];
            case "taken": return i == 0 ? pick(0, 3) : random.nextBoolean() ? pick(0, 5) : pick(10, 14);
            case "act": return new int[] {pick(0, 3), pick(0, 3), random.nextInt(5) == 0 ? random.nextInt() : pick(-50, 50)}[i];
            case "trace": return pick(0, 12);
            case "many": return pick(0, 6);
            default: return 0;
        }
    }

    // ---- texts

    private String value() {
        String[] some = {"minute", "weight", "tired", "left", "number", "" + random.nextInt(10), "" + random.nextInt(10000)};
        return some[random.nextInt(some.length)];
    }

    private String cond(int depth) {
        StringBuilder b = new StringBuilder();
        int parts = 1 + (random.nextInt(2) == 0 ? random.nextInt(3) : 0);
        for (int i = 0; i < parts; i++) {
            if (i > 0) b.append(random.nextBoolean() ? " and " : " or ");
            for (int j = random.nextInt(6); j > 3; j--) b.append("not ");
            if (random.nextInt(3 + depth) == 0) b.append("(").append(cond(depth + 1)).append(")");
            else b.append(value()).append(blanks()).append("<=>".charAt(random.nextInt(3))).append(blanks()).append(value());
        }
        return b.toString();
    }

    private String blanks() {
        return "   ".substring(0, random.nextInt(4) / 2);
    }

    private String text() {
        StringBuilder b = new StringBuilder();
        int many = random.nextInt(random.nextInt(4) == 0 ? 11 : 4);
        for (int i = 0; i < many; i++) {
            b.append(blanks()).append(WORDS[random.nextInt(6)]).append(' ');
            if (random.nextInt(4) > 0) b.append("if ").append(cond(0)).append(' ');
            b.append(WORDS[6 + random.nextInt(3)]).append(blanks()).append(';').append(blanks());
        }
        for (int i = random.nextInt(5); i > 3 && b.length() > 0; i--) spoil(b);
        return b.length() > 200 ? b.substring(0, 200) : b.toString();
    }

    private void spoil(StringBuilder b) {
        int at = random.nextInt(b.length());
        switch (random.nextInt(3)) {
            case 0: b.deleteCharAt(at); break;
            case 1: b.insert(at, WORDS[random.nextInt(WORDS.length)] + blanks()); break;
            default: b.setLength(at); break;
        }
    }

    private String tellRules(List<Method> methods) throws Exception {
        String text = text();
        for (int i = 0; i < text.length(); i += 8) {
            long eight = 0;
            int n = Math.min(8, text.length() - i);
            for (int j = 0; j < n; j++) eight |= (long) text.charAt(i + j) << 8 * j;
            String wrong = compare(find(methods, "feed"), new Object[] {eight, n});
            if (wrong != null) return wrong;
        }
        return compare(find(methods, "rules"), new Object[0]);
    }
}
