import java.util.ArrayList;
import java.util.Arrays;
import java.util.Collections;
import java.util.HashSet;
import java.util.List;
import java.util.Set;
import java.util.TreeSet;

/**
 * The document told a second time, as plainly and slowly as can be: things of classes, the machine's own
 * exceptions, all plans one by one, all from the start. ModelTest compares BenchTowels with it.
 */
public final class Model {
    static final int BAD = -1, FULL = -2, NONE = -3, STATE = -4;

    static final List<String> KINDS = List.of("set", "alone", "shared", "paired", "held", "unasked");
    static final List<String> DOS = List.of("lift", "ease", "wait");
    static final List<String> VALUES = List.of("minute", "weight", "tired", "left", "number");

    class Thing {
        int number, machine, weight, muscle, left = 3;

        boolean may(int t) {
            return !taken.get(machine).contains(t);
        }

        int gains(int t) {
            return weight;
        }

        int tires() {
            return 2;
        }

        int lifts(int x) {
            trace.add(10);
            return x + weight * 2;
        }

        int groans(int x) {
            trace.add(11);
            return lifts(x) ^ number;
        }

        int parts(int x) {
            trace.add(12);
            return x / (weight - number);
        }

        int wipes(int x) {
            trace.add(13);
            return groans(x) - parts(x);
        }
    }

    class Alone extends Thing {
        @Override boolean may(int t) {
            return t > 0 && super.may(t);
        }

        @Override int gains(int t) {
            return weight + 2;
        }

        @Override int tires() {
            return 3;
        }

        @Override int lifts(int x) {
            trace.add(20);
            return 0 - super.lifts(x);
        }
    }

    class Shared extends Thing {
        @Override boolean may(int t) {
            return super.may(t) || List.of(1, 3, 5, 7, 9, 11, 13, 15).contains(t);
        }

        @Override int gains(int t) {
            return weight - 1;
        }

        @Override int tires() {
            return 1;
        }

        @Override int groans(int x) {
            trace.add(30);
            return super.groans(x) * 3;
        }
    }

    class Paired extends Shared {
        @Override boolean may(int t) {
            return true;
        }

        @Override int gains(int t) {
            return (t & 1) == 0 ? weight - 1 + 3 : weight - 1;
        }

        @Override int lifts(int x) {
            trace.add(50);
            return super.lifts(x) + number;
        }

        @Override int wipes(int x) {
            trace.add(51);
            return super.wipes(x) ^ groans(number);
        }
    }

    class Held extends Thing {
        @Override boolean may(int t) {
            if (super.may(t)) return true;
            return t != 0 && super.may(t - 1);
        }

        @Override int parts(int x) {
            trace.add(40);
            return super.parts(x) ^ weight;
        }
    }

    class Unasked extends Held {
        @Override boolean may(int t) {
            return taken.get(machine).contains(t);
        }

        @Override int gains(int t) {
            return weight + weight;
        }

        @Override int tires() {
            return 3;
        }

        @Override int groans(int x) {
            trace.add(60);
            return super.groans(x + 4);
        }

        @Override int parts(int x) {
            trace.add(61);
            return super.parts(x) * lifts(1);
        }
    }

    record Token(String word, int place) { }

    record Rule(String kind, List<String> cond, String does) { }

    record Report(int k, int least, int most) { }

    record Man(int start, int pause, int times) { }

    record Row(int[] of) { }

    List<Thing> sets = new ArrayList<>();
    List<Set<Integer>> taken = new ArrayList<>();
    int[] load = new int[6], tired = new int[3];
    int minute = 0, end = 12, score = 0, z = 1;
    List<Rule> rules = new ArrayList<>();
    List<Report> reports = new ArrayList<>();
    List<Integer> tape = new ArrayList<>();
    List<Row> rows = new ArrayList<>();
    Object[] sheets = new Object[4];
    Object[] shelves = new Object[4];
    List<Integer> trace = new ArrayList<>();
    Model kept = null;
    Thing done = null;

    public Model() {
        for (int m = 0; m < 6; m++) taken.add(new HashSet<>());
    }

    // ---- made, copied

    Thing ofKind(int kind) {
        switch (kind) {
            case 1: return new Alone();
            case 2: return new Shared();
            case 3: return new Paired();
            case 4: return new Held();
            case 5: return new Unasked();
            default: return new Thing();
        }
    }

    static int kindOf(Thing x) {
        return KINDS.indexOf(x.getClass() == Thing.class ? "set" : x.getClass().getSimpleName().toLowerCase());
    }

    void takeFrom(Model m) {
        sets = new ArrayList<>();
        for (Thing t : m.sets) {
            Thing c = ofKind(kindOf(t));
            c.number = t.number;
            c.machine = t.machine;
            c.weight = t.weight;
            c.muscle = t.muscle;
            c.left = t.left;
            sets.add(c);
        }
        taken = new ArrayList<>();
        for (Set<Integer> s : m.taken) taken.add(new HashSet<>(s));
        load = m.load.clone();
        tired = m.tired.clone();
        minute = m.minute;
        end = m.end;
        score = m.score;
        z = m.z;
        rules = new ArrayList<>(m.rules);
        reports = new ArrayList<>(m.reports);
    }

    Model other() {
        Model c = new Model();
        c.takeFrom(this);
        return c;
    }

    static int bits(Iterable<Integer> of) {
        int b = 0;
        for (int i : of) b |= 1 << i;
        return b;
    }

    static Set<Integer> fromBits(int b) {
        Set<Integer> s = new TreeSet<>();
        for (int i = 0; i < 31; i++) {
            if ((b & 1 << i) != 0) s.add(i);
        }
        return s;
    }

    static boolean in(int v, int least, int most) {
        return least <= v && v <= most;
    }

    boolean isSet(int s) {
        return in(s, 0, sets.size() - 1);
    }

    boolean areSets(int b) {
        if (b < 0) return false;
        for (int s : fromBits(b)) {
            if (!isSet(s)) return false;
        }
        return true;
    }

    boolean over() {
        return minute >= end;
    }

    Set<Integer> spent() {
        Set<Integer> none = new TreeSet<>();
        for (Thing t : sets) {
            if (t.left == 0) none.add(t.number);
        }
        return none;
    }

    // ---- how a minute goes by

    int fact(String word, Thing t) {
        switch (word) {
            case "minute": return minute;
            case "weight": return t.weight;
            case "tired": return tired[t.muscle];
            case "left": return t.left;
            case "number": return t.number;
            default: return Integer.parseInt(word);
        }
    }

    // The condition is cut at its outermost or, then and, then not: no tree is kept.
    boolean holds(List<String> c, Thing t) {
        for (String word : List.of("or", "and")) {
            int depth = 0;
            for (int i = 0; i < c.size(); i++) {
                if (c.get(i).equals("(")) depth++;
                if (c.get(i).equals(")")) depth--;
                if (depth == 0 && c.get(i).equals(word)) {
                    boolean a = holds(c.subList(0, i), t);
                    boolean b = holds(c.subList(i + 1, c.size()), t);
                    return word.equals("or") ? a || b : a && b;
                }
            }
        }
        if (c.get(0).equals("not")) return !holds(c.subList(1, c.size()), t);
        if (c.get(0).equals("(")) return holds(c.subList(1, c.size() - 1), t);
        int a = fact(c.get(0), t);
        int b = fact(c.get(2), t);
        return c.get(1).equals("<") ? a < b : c.get(1).equals(">") ? a > b : a == b;
    }

    boolean isOfKind(Thing t, int kind) {
        switch (kind) {
            case 0: return true;
            case 1: return t instanceof Alone;
            case 2: return t instanceof Shared;
            case 3: return t instanceof Paired;
            case 4: return t instanceof Held;
            default: return t instanceof Unasked;
        }
    }

    int will(Thing t) {
        for (Rule r : rules) {
            if (!isOfKind(t, KINDS.indexOf(r.kind()))) continue;
            if (r.cond().isEmpty() || holds(r.cond(), t)) return DOS.indexOf(r.does());
        }
        return 0;
    }

    int goBy(int act) {
        done = null;
        int worth = 0;
        if (act > 0) {
            Thing t = sets.get(act - 1);
            if (t.left > 0 && t.may(minute)) worth = perform(t, will(t));
        }
        for (int m = 0; m < 3; m++) {
            if (done != null && done.muscle == m) continue;
            tired[m] = Math.max(0, tired[m] - 1);
        }
        minute = minute + 1;
        score = score + worth;
        return worth;
    }

    int perform(Thing t, int will) {
        if (will == 2) return 0;
        int worth = t.gains(minute) - tired[t.muscle] - Math.abs(load[t.machine] - t.weight) / 3;
        if (worth < 0) worth = 0;
        tired[t.muscle] = Math.min(9, tired[t.muscle] + (will == 1 ? 1 : t.tires()));
        t.left = t.left - 1;
        load[t.machine] = t.weight;
        done = t;
        return will == 1 ? worth / 2 : worth;
    }

    int restAct() {
        for (Thing t : sets) {
            if (t.left > 0 && t.may(minute)) return t.number + 1;
        }
        return 0;
    }

    int rest(int n) {
        int before = score;
        for (int i = 0; i < n && !over(); i++) goBy(restAct());
        return score - before;
    }

    // ---- the gym, sets

    public int set(int kind, int machine, int weight, int muscle) {
        if (!in(kind, 1, 5) || !in(machine, 0, 5) || !in(weight, 1, 9) || !in(muscle, 0, 2)) return BAD;
        if (sets.size() == 6) return FULL;
        Thing t = ofKind(kind);
        t.number = sets.size();
        t.machine = machine;
        t.weight = weight;
        t.muscle = muscle;
        sets.add(t);
        return t.number;
    }

    public int setOf(int s, int what) {
        if (!isSet(s) || !in(what, 0, 8)) return BAD;
        Thing t = sets.get(s);
        int may = t.may(minute) ? 1 : 0;
        int[] all = {kindOf(t), t.machine, t.weight, t.muscle, t.left, may, t.gains(minute), t.tires(), will(t)};
        return all[what];
    }

    public int change(int s, int what, int v) {
        if (!isSet(s) || !in(what, 1, 4)) return BAD;
        Thing t = sets.get(s);
        int was = setOf(s, what);
        if (what == 1 && in(v, 0, 5)) t.machine = v;
        else if (what == 2 && in(v, 1, 9)) t.weight = v;
        else if (what == 3 && in(v, 0, 2)) t.muscle = v;
        else if (what == 4 && in(v, 0, 9)) t.left = v;
        else return BAD;
        return was;
    }

    public int remake(int s, int kind) {
        if (!isSet(s) || !in(kind, 1, 5)) return BAD;
        Thing t = sets.get(s);
        Thing c = ofKind(kind);
        c.number = t.number;
        c.machine = t.machine;
        c.weight = t.weight;
        c.muscle = t.muscle;
        c.left = t.left;
        sets.set(s, c);
        return kindOf(t);
    }

    public int machine(int m, int what, int v) {
        int was = machineOf(m, what);
        if (was == BAD || v < 0 || what == 0 && v > 9 || what == 1 && v > 65535) return BAD;
        if (what == 0) load[m] = v;
        else taken.set(m, fromBits(v));
        return was;
    }

    public int machineOf(int m, int what) {
        if (!in(m, 0, 5) || !in(what, 0, 1)) return BAD;
        return what == 0 ? load[m] : bits(taken.get(m));
    }

    public int tire(int muscle, int v) {
        if (!in(muscle, 0, 2) || !in(v, 0, 9)) return BAD;
        int was = tired[muscle];
        tired[muscle] = v;
        return was;
    }

    public int ends(int v) {
        if (!in(v, 1, 16)) return BAD;
        if (v < minute) return STATE;
        int was = end;
        end = v;
        return was;
    }

    public int anew() {
        int was = minute;
        minute = 0;
        score = 0;
        for (Thing t : sets) t.left = 3;
        tired = new int[3];
        load = new int[6];
        return was;
    }

    public int state(int what) {
        if (!in(what, 0, 7)) return BAD;
        return new int[] {minute, end, score, over() ? 1 : 0, bits(spent()), tired[0], tired[1], tired[2]}[what];
    }

    // ---- the rules

    public int feed(long eight, int n) {
        if (!in(n, 1, 8)) return BAD;
        if (tape.size() > 200 - n) return FULL;
        for (int i = 0; i < n; i++) tape.add((int) (eight >> 8 * i & 255L));
        return tape.size();
    }

    List<Token> tokens() {
        List<Token> all = new ArrayList<>();
        int i = 0;
        while (i < tape.size()) {
            int c = tape.get(i);
            int from = i;
            StringBuilder b = new StringBuilder();
            if (c >= 97 && c <= 122) {
                while (i < tape.size() && tape.get(i) >= 97 && tape.get(i) <= 122) b.append((char) (int) tape.get(i++));
            } else if (c >= 48 && c <= 57) {
                while (i < tape.size() && tape.get(i) >= 48 && tape.get(i) <= 57) b.append((char) (int) tape.get(i++));
            } else {
                i++;
                if (c == 32) continue;
                b.append((char) c);
            }
            all.add(new Token(b.toString(), from));
        }
        return all;
    }

    static boolean isValue(String w) {
        return VALUES.contains(w) || w.matches("[0-9]{1,4}");
    }

    // A machine of states instead of a descent: what may come next is told by where it stands.
    public int rules() {
        List<Token> all = tokens();
        int size = tape.size();
        tape.clear();
        List<Rule> read = new ArrayList<>();
        String at = "kind";
        String kind = "";
        String does = "";
        List<String> cond = new ArrayList<>();
        int depth = 0;
        for (Token t : all) {
            String w = t.word();
            String to = "fault";
            switch (at) {
                case "kind":
                    if (KINDS.contains(w) && read.size() < 8) to = "if";
                    kind = w;
                    cond = new ArrayList<>();
                    break;
                case "if":
                    if (w.equals("if")) to = "one";
                    if (DOS.contains(w)) to = "stop";
                    does = w;
                    break;
                case "one":
                    if (w.equals("not")) to = "one";
                    if (isValue(w)) to = "sign";
                    if (w.equals("(") && depth < 3) {
                        depth++;
                        to = "one";
                    }
                    cond.add(w);
                    break;
                case "sign":
                    if (List.of("<", "=", ">").contains(w)) to = "value";
                    cond.add(w);
                    break;
                case "value":
                    if (isValue(w)) to = "more";
                    cond.add(w);
                    break;
                case "more":
                    if (w.equals("and") || w.equals("or")) to = "one";
                    if (w.equals(")") && depth > 0) {
                        depth--;
                        to = "more";
                    }
                    if (DOS.contains(w) && depth == 0) to = "stop";
                    if (to.equals("stop")) does = w;
                    else cond.add(w);
                    break;
                default:
                    if (w.equals(";")) {
                        read.add(new Rule(kind, cond, does));
                        to = "kind";
                    }
                    break;
            }
            if (to.equals("fault")) return -100 - t.place();
            at = to;
        }
        if (!at.equals("kind")) return -100 - size;
        rules = read;
        return rules.size();
    }

    // ---- minutes

    public int minute() {
        return over() ? STATE : goBy(restAct());
    }

    public int on(int n) {
        return in(n, 0, 16) ? other().rest(n) : BAD;
    }

    public int when(int s) {
        if (!isSet(s)) return BAD;
        Model m = other();
        while (!m.over()) {
            m.goBy(m.restAct());
            if (m.done != null && m.done.number == s) return m.minute - 1;
        }
        return NONE;
    }

    int bestFor(int s, int what, int least, int most) {
        if (!isSet(s)) return BAD;
        List<Integer> worths = new ArrayList<>();
        for (int v = least; v <= most; v++) {
            Model m = other();
            m.change(s, what, v);
            worths.add(m.rest(99));
        }
        return least + worths.indexOf(Collections.max(worths));
    }

    public int weightFor(int s) {
        return bestFor(s, 2, 1, 9);
    }

    public int machineFor(int s) {
        return bestFor(s, 1, 0, 5);
    }

    // ---- who waits

    boolean place(List<Integer> who, int i, int last, int[] minutes) {
        if (i == who.size()) return true;
        for (int t = minute; t <= last; t++) {
            boolean used = false;
            for (int j = 0; j < i; j++) used |= minutes[who.get(j)] == t;
            if (used || !sets.get(who.get(i)).may(t)) continue;
            minutes[who.get(i)] = t;
            if (place(who, i + 1, last, minutes)) return true;
        }
        return false;
    }

    int[] gatherRow(int b) {
        List<Integer> who = new ArrayList<>(fromBits(b));
        for (int last = minute; last < end; last++) {
            int until = last;
            if (!who.stream().allMatch(s -> range(minute, until).stream().anyMatch(t -> sets.get(s).may(t)))) continue;
            int[] minutes = new int[7];
            Arrays.fill(minutes, NONE);
            minutes[6] = last;
            if (place(who, 0, last, minutes)) return minutes;
        }
        return null;
    }

    static List<Integer> range(int from, int to) {
        List<Integer> all = new ArrayList<>();
        for (int i = from; i <= to; i++) all.add(i);
        return all;
    }

    public int gather(int b) {
        if (!areSets(b)) return BAD;
        if (b == 0) return minute;
        int[] row = gatherRow(b);
        return row == null ? NONE : row[6];
    }

    public int gathered(int b, int s) {
        if (!areSets(b) || !isSet(s)) return BAD;
        if (!fromBits(b).contains(s)) return NONE;
        int[] row = gatherRow(b);
        return row == null ? NONE : row[s];
    }

    public int free(int m, int n) {
        if (!in(m, 0, 5) || !in(n, 1, 16)) return BAD;
        for (int t = minute; t <= 15; t++) {
            List<Integer> asked = range(t, t + n - 1);
            if (Collections.max(asked) <= 15 && Collections.disjoint(asked, taken.get(m))) return t;
        }
        return NONE;
    }

    public int busiest(int what) {
        if (!in(what, 0, 1)) return BAD;
        List<Integer> many = new ArrayList<>();
        for (int t = 0; t < 16; t++) {
            int minuteAsked = t;
            many.add((int) taken.stream().filter(s -> s.contains(minuteAsked)).count());
        }
        int most = Collections.max(many);
        return what == 0 ? many.indexOf(most) : most;
    }

    // ---- plans

    List<List<Integer>> allPlans(int n) {
        List<List<Integer>> all = new ArrayList<>();
        all.add(new ArrayList<>());
        for (int i = 0; i < Math.min(n, end - minute); i++) {
            List<List<Integer>> longer = new ArrayList<>();
            for (List<Integer> p : all) {
                for (int act = 0; act <= sets.size(); act++) {
                    List<Integer> q = new ArrayList<>(p);
                    q.add(act);
                    longer.add(q);
                }
            }
            all = longer;
        }
        return all;
    }

    int worthOf(List<Integer> plan, Set<Integer> dones) {
        Model m = other();
        int worth = 0;
        for (int act : plan) {
            worth += m.goBy(act);
            if (m.done != null) dones.add(m.done.number);
        }
        return worth;
    }

    List<List<Integer>> bestPlans(int n) {
        int most = -1;
        List<List<Integer>> best = new ArrayList<>();
        for (List<Integer> p : allPlans(n)) {
            int worth = worthOf(p, new HashSet<>());
            if (worth > most) best.clear();
            if (worth >= most) best.add(p);
            most = Math.max(most, worth);
        }
        return best;
    }

    public int best(int n) {
        return in(n, 0, 4) ? worthOf(bestPlans(n).get(0), new HashSet<>()) : BAD;
    }

    public int ith(int n, int i) {
        if (!in(n, 0, 4) || !in(i, 0, 3)) return BAD;
        List<Integer> p = bestPlans(n).get(0);
        return i < p.size() ? p.get(i) : NONE;
    }

    public int ways(int n) {
        return in(n, 0, 4) ? bestPlans(n).size() : BAD;
    }

    public int train(int n, int b) {
        if (!in(n, 0, 4) || !areSets(b)) return BAD;
        int fewest = 99;
        for (List<Integer> p : allPlans(n)) {
            Set<Integer> dones = new HashSet<>();
            worthOf(p, dones);
            if (dones.containsAll(fromBits(b))) fewest = Math.min(fewest, p.size() - Collections.frequency(p, 0));
        }
        return fewest == 99 ? NONE : fewest;
    }

    public int bars(int n, int b) {
        if (!in(n, 0, 4) || !areSets(b)) return BAD;
        Set<Integer> ever = new HashSet<>();
        for (List<Integer> p : allPlans(n)) worthOf(p, ever);
        for (int s : fromBits(b)) {
            if (!ever.contains(s)) return s;
        }
        return NONE;
    }

    // ---- a game, men, lots

    int valueOf(List<Integer> acts, int n) {
        if (acts.size() == Math.min(n, end - minute)) return worthOf(acts, new HashSet<>());
        List<Integer> values = new ArrayList<>();
        for (int act = 0; act <= sets.size(); act++) {
            List<Integer> more = new ArrayList<>(acts);
            more.add(act);
            values.add(valueOf(more, n));
        }
        return acts.size() % 2 == 0 ? Collections.max(values) : Collections.min(values);
    }

    public int game(int n) {
        return in(n, 1, 4) ? valueOf(List.of(), n) : BAD;
    }

    public int play(int n) {
        if (!in(n, 1, 4)) return BAD;
        if (over()) return NONE;
        int value = game(n);
        int act = 0;
        while (valueOf(List.of(act), n) != value) act++;
        return act;
    }

    public int report(int k, int least, int most) {
        if (!in(k, 0, 15) || !in(least, 0, 4) || !in(most, 0, 4) || most < least) return BAD;
        if (reports.size() == 6) return FULL;
        reports.add(new Report(k, least, most));
        return reports.size() - 1;
    }

    public int forget() {
        int were = reports.size();
        reports.clear();
        return were;
    }

    static List<Man> fitting(List<Report> to) {
        List<Man> all = new ArrayList<>();
        for (int start = 0; start < 16; start++) {
            for (int pause = 1; pause < 5; pause++) {
                for (int times = 1; times < 5; times++) {
                    List<Integer> sits = new ArrayList<>();
                    for (int i = 0; i < times; i++) sits.add(start + pause * i);
                    boolean fits = true;
                    for (Report r : to) fits &= in((int) sits.stream().filter(t -> t <= r.k()).count(), r.least(), r.most());
                    if (fits) all.add(new Man(start, pause, times));
                }
            }
        }
        return all;
    }

    public int span(int what) {
        if (!in(what, 0, 3)) return BAD;
        List<Man> fit = fitting(reports);
        if (what == 0) return fit.size();
        if (fit.isEmpty()) return NONE;
        Man m = fit.get(0);
        return what == 1 ? m.start() : what == 2 ? m.pause() : m.times();
    }

    public int liar() {
        if (!fitting(reports).isEmpty()) return NONE;
        for (int r = 0; r < reports.size(); r++) {
            List<Report> others = new ArrayList<>(reports);
            others.remove(r);
            if (!fitting(others).isEmpty()) return r;
        }
        return NONE;
    }

    public int seed(int v) {
        int was = z;
        z = v;
        return was;
    }

    int drawn() {
        z = z * 1103515245 + 12345;
        return (z >>> 16) % (sets.size() + 1);
    }

    public int lot() {
        return over() ? STATE : goBy(drawn());
    }

    public int times(int n, int v) {
        if (!in(n, 1, 40) || !in(v, 0, 999)) return BAD;
        int many = 0;
        int chance = z;
        for (int i = 0; i < n; i++) {
            Model m = other();
            m.z = chance;
            int worth = 0;
            while (!m.over()) worth += m.goBy(m.drawn());
            chance = m.z;
            if (worth >= v) many++;
        }
        return many;
    }

    // ---- rows

    public int prove(int n) {
        if (!in(n, 0, 4)) return BAD;
        rows = new ArrayList<>();
        Model m = other();
        for (int act : bestPlans(n).get(0)) {
            int worth = m.goBy(act);
            rows.add(new Row(new int[] {act, worth, bits(m.spent())}));
        }
        return rows.size();
    }

    public int row(int k, int what) {
        return in(k, 0, rows.size() - 1) && in(what, 0, 2) ? rows.get(k).of()[what] : -9;
    }

    public int alterRow(int k, int what, int v) {
        int was = row(k, what);
        if (in(k, 0, rows.size() - 1) && in(what, 0, 2)) rows.get(k).of()[what] = v;
        return was;
    }

    public int judge() {
        Model m = other();
        for (int k = 0; k < rows.size(); k++) {
            int[] r = rows.get(k).of();
            boolean right = in(r[0], 0, sets.size()) && !m.over();
            if (right) right = m.goBy(r[0]) == r[1];
            if (right) right = bits(m.spent()) == r[2];
            if (!right) return k + 1;
        }
        return 0;
    }

    // ---- the host

    public int sheet(int sheet, int sort, int n) {
        if (!in(sheet, 0, 3) || !in(sort, -1, 4) || sort >= 0 && n > 40) return BAD;
        try {
            switch (sort) {
                case 0: sheets[sheet] = new byte[n]; break;
                case 1: sheets[sheet] = new short[n]; break;
                case 2: sheets[sheet] = new int[n]; break;
                case 3: sheets[sheet] = new long[n]; break;
                case 4: sheets[sheet] = new boolean[n]; break;
                default: sheets[sheet] = null; break;
            }
        } catch (NegativeArraySizeException e) {
            return -14;
        }
        return 1;
    }

    public int write(int sheet, int i, int v) {
        if (!in(sheet, 0, 3)) return BAD;
        Object x = sheets[sheet];
        try {
            if (x instanceof byte[] a) a[i] = (byte) v;
            else if (x instanceof short[] a) a[i] = (short) v;
            else if (x instanceof int[] a) a[i] = v;
            else if (x instanceof boolean[] a) a[i] = v != 0;
            else ((long[]) x)[i] = v;
        } catch (NullPointerException e) {
            return -11;
        } catch (ArrayIndexOutOfBoundsException e) {
            return -12;
        }
        return 1;
    }

    public int item(int sheet, int sort, int i) {
        if (!in(sheet, 0, 3) || !in(sort, 0, 4)) return BAD;
        try {
            switch (sort) {
                case 0: return ((byte[]) sheets[sheet])[i];
                case 1: return ((short[]) sheets[sheet])[i];
                case 2: return ((int[]) sheets[sheet])[i];
                case 3: return (int) ((long[]) sheets[sheet])[i];
                default: return ((boolean[]) sheets[sheet])[i] ? 1 : 0;
            }
        } catch (ClassCastException e) {
            return -13;
        } catch (NullPointerException e) {
            return -11;
        } catch (ArrayIndexOutOfBoundsException e) {
            return -12;
        }
    }

    public int goAll(int sheet, int i, int n) {
        if (!in(sheet, 0, 3) || !in(n, 0, 20)) return BAD;
        try {
            byte[] a = (byte[]) sheets[sheet];
            int worth = a.length * 0;
            for (int j = i; n > 0; j++, n--) {
                if (in(a[j], 0, sets.size()) && !over()) worth += goBy(a[j]);
            }
            return worth;
        } catch (ClassCastException e) {
            return -13;
        } catch (NullPointerException e) {
            return -11;
        } catch (ArrayIndexOutOfBoundsException e) {
            return -12;
        }
    }

    public int wouldBe(int sheet, int i, int n) {
        if (!in(sheet, 0, 3) || !in(n, 0, 20)) return BAD;
        Model m = other();
        try {
            byte[] a = (byte[]) sheets[sheet];
            int worth = a.length * 0;
            for (int j = i; n > 0; j++, n--) {
                if (!in(a[j], 0, sets.size()) || m.over()) return STATE;
                worth += m.goBy(a[j]);
            }
            return worth;
        } catch (ClassCastException e) {
            return -13;
        } catch (NullPointerException e) {
            return -11;
        } catch (ArrayIndexOutOfBoundsException e) {
            return -12;
        }
    }

    public int shelf(int shelf, int what, int n) {
        if (!in(shelf, 0, 3) || !in(what, 0, 2)) return BAD;
        if (what == 0 && !isSet(n) || what == 1 && !in(n, 0, 3)) return BAD;
        shelves[shelf] = what == 0 ? (Object) n : what == 1 ? sheets[n] : null;
        return 1;
    }

    Object onShelf(int shelf) {
        if (!(shelves[shelf] instanceof Integer n)) return shelves[shelf];
        return isSet(n) ? sets.get(n) : null;
    }

    public int taken(int shelf, int as) {
        if (!in(shelf, 0, 3) || !in(as, 0, 5) && !in(as, 10, 14)) return BAD;
        Object x = onShelf(shelf);
        try {
            switch (as) {
                case 0: return ((Thing) x).number;
                case 1: return ((Alone) x).number;
                case 2: return ((Shared) x).number;
                case 3: return ((Paired) x).number;
                case 4: return ((Held) x).number;
                case 5: return ((Unasked) x).number;
                case 10: return ((byte[]) x).length;
                case 11: return ((short[]) x).length;
                case 12: return ((int[]) x).length;
                case 13: return ((long[]) x).length;
                default: return ((boolean[]) x).length;
            }
        } catch (ClassCastException e) {
            return -13;
        } catch (NullPointerException e) {
            return -11;
        }
    }

    public int act(int shelf, int act, int x) {
        trace.clear();
        if (!in(shelf, 0, 3) || !in(act, 0, 3) || !(onShelf(shelf) instanceof Thing t)) return 0;
        try {
            return act == 0 ? t.lifts(x) : act == 1 ? t.groans(x) : act == 2 ? t.parts(x) : t.wipes(x);
        } catch (ArithmeticException e) {
            return -15;
        }
    }

    public int trace(int i) {
        return in(i, 0, Math.min(30, trace.size()) - 1) ? trace.get(i) : NONE;
    }

    public int many(int what) {
        if (!in(what, 0, 6)) return BAD;
        return new int[] {sets.size(), rules.size(), spent().size(), reports.size(), rows.size(), tape.size(),
            Math.min(30, trace.size())}[what];
    }

    // ---- kept

    public int keep() {
        kept = other();
        return 1;
    }

    public int again() {
        if (kept == null) return NONE;
        takeFrom(kept);
        return sets.size();
    }
}
