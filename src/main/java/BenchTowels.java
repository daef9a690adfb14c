/** A gym at six: machines, sets of kinds, rules, plans and what else the document tells. */
public final class BenchTowels {
    public static final int BAD = -1, FULL = -2, NONE = -3, STATE = -4;

    private static final int NOTHING = -11, OUTSIDE = -12, OTHER_SORT = -13, BELOW_0 = -14, PARTED_BY_0 = -15;
    private static final int NO_ROW = -9;

    private static final int SETS = 6, MACHINES = 6, MUSCLES = 3, MINUTES = 16, KINDS = 6, MOST_TIRED = 9;
    private static final int PLAN = 4, REPORTS = 6, TAPE = 200, SHEETS = 4, ITEMS = 40, SHELVES = 4, TRACE = 30;

    // What a SET has, and within which bounds.
    private static final int KIND = 0, MACHINE = 1, WEIGHT = 2, MUSCLE = 3, LEFT = 4;
    private static final int[] LEAST_OF_SET = {1, 0, 1, 0, 0};
    private static final int[] MOST_OF_SET = {5, 5, 9, 2, 9};

    // What a MACHINE has; both from 0 on.
    private static final int LOAD = 0, TAKEN = 1;
    private static final int[] MOST_OF_MACHINE = {9, 65535};

    // For each KIND those that it is, itself and all above it, as bits.
    private static final int[] IS = {1, 3, 5, 13, 17, 49};

    private static final int LIFT = 0, EASE = 1, WAIT = 2;

    // What a SHELF holds, and the SORTS of SHEETS.
    private static final int HOLDS_SET = 0, HOLDS_ROW = 1, HOLDS_NOTHING = 2;
    private static final int MISSING = -1, BYTES = 0, SHORTS = 1, BOOLEANS = 4;

    private final byte[] tape = new byte[TAPE];
    private int taped;
    private final Rules rules = new Rules(tape), spareRules = new Rules(tape), keptRules = new Rules(tape);
    private final Men men = new Men(), keptMen = new Men();
    private final Gym gym, kept, trial;
    private final Plans plans;
    private final Host host;
    private final int[][] rows = new int[PLAN][3];
    private int rowCount;
    private boolean isKept;

    public BenchTowels() {
        Plain[] kinds = {new Plain(), new Alone(), new Shared(), new Paired(), new Held(), new Unasked()};
        gym = new Gym(kinds, rules);
        kept = new Gym(kinds, keptRules);
        trial = new Gym(kinds, rules);
        plans = new Plans(kinds, rules);
        host = new Host(kinds);
    }

    // ---- the gym, sets

    public int set(int kind, int machine, int weight, int muscle) {
        boolean suits = suits(KIND, kind) && suits(MACHINE, machine) && suits(WEIGHT, weight) && suits(MUSCLE, muscle);
        if (!suits) return BAD;
        return gym.sets >= SETS ? FULL : gym.add(kind, machine, weight, muscle);
    }

    public int setOf(int s, int what) {
        if (!gym.has(s) || what < 0 || what > 8) return BAD;
        if (what <= LEFT) return gym.of[what][s];
        if (what == 5) return gym.mayIn(s, gym.minute) ? 1 : 0;
        if (what == 6) return gym.gains(s);
        return what == 7 ? gym.tires(s) : gym.will(s);
    }

    public int change(int s, int what, int v) {
        if (!gym.has(s) || what < MACHINE || !suits(what, v)) return BAD;
        return gym.alterSet(s, what, v);
    }

    public int remake(int s, int kind) {
        if (!gym.has(s) || !suits(KIND, kind)) return BAD;
        return gym.alterSet(s, KIND, kind);
    }

    public int machine(int m, int what, int v) {
        if (!isMachine(m, what) || v < 0 || v > MOST_OF_MACHINE[what]) return BAD;
        int was = gym.machine[what][m];
        gym.machine[what][m] = v;
        return was;
    }

    public int machineOf(int m, int what) {
        return isMachine(m, what) ? gym.machine[what][m] : BAD;
    }

    public int tire(int muscle, int v) {
        if (muscle < 0 || muscle >= MUSCLES || v < 0 || v > MOST_TIRED) return BAD;
        int was = gym.tired[muscle];
        gym.tired[muscle] = v;
        return was;
    }

    public int ends(int v) {
        if (v < 1 || v > MINUTES) return BAD;
        if (v < gym.minute) return STATE;
        int was = gym.end;
        gym.end = v;
        return was;
    }

    public int anew() {
        int was = gym.minute;
        gym.beginAnew();
        return was;
    }

    public int state(int what) {
        switch (what) {
            case 0: return gym.minute;
            case 1: return gym.end;
            case 2: return gym.score;
            case 3: return gym.isOver() ? 1 : 0;
            case 4: return gym.spent();
            default: return what >= 5 && what < 5 + MUSCLES ? gym.tired[what - 5] : BAD;
        }
    }

    // ---- the rules

    public int feed(long eight, int n) {
        if (n < 1 || n > 8) return BAD;
        if (taped + n > TAPE) return FULL;
        for (int i = 0; i < n; i++) tape[taped + i] = (byte) (eight >>> 8 * i);
        taped += n;
        return taped;
    }

    public int rules() {
        int fault = spareRules.read(taped);
        taped = 0;
        if (fault >= 0) return -100 - fault;
        rules.copy(spareRules);
        return rules.count;
    }

    // ---- minutes

    public int minute() {
        return gym.isOver() ? STATE : gym.goBy(gym.restAct());
    }

    public int on(int n) {
        if (n < 0 || n > MINUTES) return BAD;
        trial.copy(gym);
        return trial.goRest(n);
    }

    public int when(int s) {
        if (!gym.has(s)) return BAD;
        trial.copy(gym);
        for (int t = gym.minute; t < gym.end; t++) {
            trial.goBy(trial.restAct());
            if (trial.done == s) return t;
        }
        return NONE;
    }

    public int weightFor(int s) {
        return gym.has(s) ? bestFor(s, WEIGHT) : BAD;
    }

    public int machineFor(int s) {
        return gym.has(s) ? bestFor(s, MACHINE) : BAD;
    }

    // ---- who waits

    public int gather(int sets) {
        return gym.isOfSets(sets) ? gym.gatherBy(sets) : BAD;
    }

    public int gathered(int sets, int s) {
        if (!gym.isOfSets(sets) || !gym.has(s)) return BAD;
        int by = gym.gatherBy(sets);
        if (by < 0 || (sets >> s & 1) == 0) return NONE;
        return gym.firstRow(sets, by, s);
    }

    public int free(int m, int n) {
        if (m < 0 || m >= MACHINES || n < 1 || n > MINUTES) return BAD;
        int asked = (1 << n) - 1;
        for (int t = gym.minute; t + n <= MINUTES; t++) {
            if ((gym.machine[TAKEN][m] >> t & asked) == 0) return t;
        }
        return NONE;
    }

    public int busiest(int what) {
        if (what < 0 || what > 1) return BAD;
        int at = 0;
        for (int t = 1; t < MINUTES; t++) {
            if (gym.takenIn(t) > gym.takenIn(at)) at = t;
        }
        return what == 0 ? at : gym.takenIn(at);
    }

    // ---- plans

    public int best(int n) {
        if (n < 0 || n > PLAN) return BAD;
        plans.search(gym, n, 0);
        return plans.most;
    }

    public int ith(int n, int i) {
        if (n < 0 || n > PLAN || i < 0 || i >= PLAN) return BAD;
        plans.search(gym, n, 0);
        return i < plans.length ? plans.first[i] : NONE;
    }

    public int ways(int n) {
        if (n < 0 || n > PLAN) return BAD;
        plans.search(gym, n, 0);
        return plans.ways;
    }

    public int train(int n, int sets) {
        if (n < 0 || n > PLAN || !gym.isOfSets(sets)) return BAD;
        plans.search(gym, n, sets);
        return plans.fewest <= PLAN ? plans.fewest : NONE;
    }

    public int bars(int n, int sets) {
        if (n < 0 || n > PLAN || !gym.isOfSets(sets)) return BAD;
        plans.search(gym, n, sets);
        int never = sets & ~plans.everDone;
        return never == 0 ? NONE : leastOf(never);
    }

    // ---- a game, men, lots

    public int game(int n) {
        if (n < 1 || n > PLAN) return BAD;
        plans.match(gym, n);
        return plans.value;
    }

    public int play(int n) {
        if (n < 1 || n > PLAN) return BAD;
        if (gym.isOver()) return NONE;
        plans.match(gym, n);
        return plans.firstMove;
    }

    public int report(int k, int least, int most) {
        if (k < 0 || k >= MINUTES || least < 0 || most > 4 || most < least) return BAD;
        return men.reports >= REPORTS ? FULL : men.add(k, least, most);
    }

    public int forget() {
        int were = men.reports;
        men.reports = 0;
        return were;
    }

    public int span(int what) {
        if (what < 0 || what > 3) return BAD;
        men.look();
        if (what == 0) return men.found;
        if (men.found == 0) return NONE;
        if (what == 1) return men.start;
        return what == 2 ? men.pause : men.times;
    }

    public int liar() {
        men.look();
        return men.found > 0 || men.liar >= men.reports ? NONE : men.liar;
    }

    public int seed(int v) {
        int was = gym.chance;
        gym.chance = v;
        return was;
    }

    public int lot() {
        return gym.isOver() ? STATE : gym.goBy(gym.drawAct());
    }

    public int times(int n, int v) {
        if (n < 1 || n > 40 || v < 0 || v > 999) return BAD;
        trial.copy(gym);
        int reached = 0;
        for (int i = 0; i < n; i++) {
            trial.follow(gym);
            if (trial.goByLot() >= v) reached++;
        }
        return reached;
    }

    // ---- rows

    public int prove(int n) {
        if (n < 0 || n > PLAN) return BAD;
        plans.search(gym, n, 0);
        trial.copy(gym);
        rowCount = plans.length;
        for (int k = 0; k < rowCount; k++) {
            rows[k][0] = plans.first[k];
            rows[k][1] = trial.goBy(plans.first[k]);
            rows[k][2] = trial.spent();
        }
        return rowCount;
    }

    public int row(int k, int what) {
        return isInRow(k, what) ? rows[k][what] : NO_ROW;
    }

    public int alterRow(int k, int what, int v) {
        if (!isInRow(k, what)) return NO_ROW;
        int was = rows[k][what];
        rows[k][what] = v;
        return was;
    }

    public int judge() {
        trial.copy(gym);
        for (int k = 0; k < rowCount; k++) {
            int act = rows[k][0];
            if (trial.isOver() || !trial.isAct(act)) return k + 1;
            if (trial.goBy(act) != rows[k][1] || trial.spent() != rows[k][2]) return k + 1;
        }
        return 0;
    }

    // ---- the host

    public int sheet(int sheet, int sort, int n) {
        if (!isSheet(sheet) || sort < MISSING || sort > BOOLEANS) return BAD;
        if (sort != MISSING && n > ITEMS) return BAD;
        if (sort != MISSING && n < 0) return BELOW_0;
        host.lay(sheet, sort, sort == MISSING ? 0 : n);
        return 1;
    }

    public int write(int sheet, int i, int v) {
        if (!isSheet(sheet)) return BAD;
        if (host.sort[sheet] == MISSING) return NOTHING;
        if (!host.hasItem(sheet, i)) return OUTSIDE;
        host.item[sheet][i] = host.narrowed(host.sort[sheet], v);
        return 1;
    }

    public int item(int sheet, int sort, int i) {
        if (!isSheet(sheet) || sort < BYTES || sort > BOOLEANS) return BAD;
        int refusal = host.refusal(sheet, sort);
        if (refusal < 0) return refusal;
        return host.hasItem(sheet, i) ? host.item[sheet][i] : OUTSIDE;
    }

    public int goAll(int sheet, int i, int n) {
        if (!isSheet(sheet) || n < 0 || n > 20) return BAD;
        int refusal = host.refusal(sheet, BYTES);
        if (refusal < 0) return refusal;
        int worth = 0;
        for (int j = 0; j < n; j++) {
            if (!host.hasItem(sheet, i + j)) return OUTSIDE;
            int act = host.item[sheet][i + j];
            if (gym.isAct(act) && !gym.isOver()) worth += gym.goBy(act);
        }
        return worth;
    }

    public int wouldBe(int sheet, int i, int n) {
        if (!isSheet(sheet) || n < 0 || n > 20) return BAD;
        int refusal = host.refusal(sheet, BYTES);
        if (refusal < 0) return refusal;
        trial.copy(gym);
        int worth = 0;
        for (int j = 0; j < n; j++) {
            if (!host.hasItem(sheet, i + j)) return OUTSIDE;
            int act = host.item[sheet][i + j];
            if (!trial.isAct(act) || trial.isOver()) return STATE;
            worth += trial.goBy(act);
        }
        return worth;
    }

    public int shelf(int shelf, int what, int n) {
        if (!isShelf(shelf) || what < HOLDS_SET || what > HOLDS_NOTHING) return BAD;
        if (what == HOLDS_SET && !gym.has(n) || what == HOLDS_ROW && !isSheet(n)) return BAD;
        if (what == HOLDS_SET) host.putSet(shelf, n);
        else if (what == HOLDS_ROW) host.putRow(shelf, n);
        else host.holds[shelf] = HOLDS_NOTHING;
        return 1;
    }

    public int taken(int shelf, int as) {
        boolean asKind = as >= 0 && as < KINDS;
        boolean asRow = as >= 10 && as <= 10 + BOOLEANS;
        if (!isShelf(shelf) || !asKind && !asRow) return BAD;
        int thing = host.thing[shelf];
        if (host.holds[shelf] == HOLDS_ROW) return asRow && thing == as - 10 ? host.length[shelf] : OTHER_SORT;
        if (!holdsSet(shelf)) return NOTHING;
        return asKind && (IS[gym.of[KIND][thing]] >> as & 1) == 1 ? thing : OTHER_SORT;
    }

    public int act(int shelf, int act, int x) {
        host.traced = 0;
        if (!isShelf(shelf) || act < 0 || act > 3 || !holdsSet(shelf)) return 0;
        int s = host.thing[shelf];
        Plain kind = host.hold(s, gym);
        int answer;
        switch (act) {
            case 0: answer = kind.lifts(host, x); break;
            case 1: answer = kind.groans(host, x); break;
            case 2: answer = kind.parts(host, x); break;
            default: answer = kind.wipes(host, x); break;
        }
        return host.stopped ? PARTED_BY_0 : answer;
    }

    public int trace(int i) {
        return i >= 0 && i < host.traced ? host.trace[i] : NONE;
    }

    public int many(int what) {
        switch (what) {
            case 0: return gym.sets;
            case 1: return rules.count;
            case 2: return Integer.bitCount(gym.spent());
            case 3: return men.reports;
            case 4: return rowCount;
            case 5: return taped;
            case 6: return host.traced;
            default: return BAD;
        }
    }

    // ---- kept

    public int keep() {
        kept.copy(gym);
        keptRules.copy(rules);
        keptMen.copy(men);
        isKept = true;
        return 1;
    }

    public int again() {
        if (!isKept) return NONE;
        gym.copy(kept);
        rules.copy(keptRules);
        men.copy(keptMen);
        return gym.sets;
    }

    // ---- helpers

    private static boolean suits(int what, int v) {
        return what >= KIND && what <= LEFT && v >= LEAST_OF_SET[what] && v <= MOST_OF_SET[what];
    }

    private static int leastOf(int bits) {
        int i = 0;
        while (i < 31 && (bits >> i & 1) == 0) i++;
        return i;
    }

    private static boolean isMachine(int m, int what) {
        return m >= 0 && m < MACHINES && (what == LOAD || what == TAKEN);
    }

    private static boolean isSheet(int sheet) {
        return sheet >= 0 && sheet < SHEETS;
    }

    private static boolean isShelf(int shelf) {
        return shelf >= 0 && shelf < SHELVES;
    }

    private boolean isInRow(int k, int what) {
        return k >= 0 && k < rowCount && what >= 0 && what < 3;
    }

    // A SET may be gone since it was put there: again() can bring back fewer.
    private boolean holdsSet(int shelf) {
        return host.holds[shelf] == HOLDS_SET && gym.has(host.thing[shelf]);
    }

    private int bestFor(int s, int what) {
        int most = -1;
        int best = LEAST_OF_SET[what];
        for (int v = LEAST_OF_SET[what]; v <= MOST_OF_SET[what]; v++) {
            trial.copy(gym);
            trial.of[what][s] = v;
            int worth = trial.goRest(MINUTES);
            if (worth > most) {
                most = worth;
                best = v;
            }
        }
        return best;
    }

    /** The KIND set; the kinds under it tell only what they do otherwise. */
    private static class Plain {
        static boolean isTaken(int taken, int t) {
            return (taken >> t & 1) == 1;
        }

        boolean may(int taken, int t) {
            return !isTaken(taken, t);
        }

        int gains(int weight, int t) {
            return weight;
        }

        int tires() {
            return 2;
        }

        int lifts(Host h, int x) {
            return h.begins(10) ? x + h.weight * 2 : 0;
        }

        int groans(Host h, int x) {
            return h.begins(11) ? lifts(h, x) ^ h.number : 0;
        }

        int parts(Host h, int x) {
            if (!h.begins(12)) return 0;
            int by = h.weight - h.number;
            if (by != 0) return x / by;
            h.stopped = true;
            return 0;
        }

        int wipes(Host h, int x) {
            return h.begins(13) ? groans(h, x) - parts(h, x) : 0;
        }
    }

    private static final class Alone extends Plain {
        boolean may(int taken, int t) {
            return t != 0 && super.may(taken, t);
        }

        int gains(int weight, int t) {
            return super.gains(weight, t) + 2;
        }

        int tires() {
            return 3;
        }

        int lifts(Host h, int x) {
            return h.begins(20) ? 0 - super.lifts(h, x) : 0;
        }
    }

    private static class Shared extends Plain {
        boolean may(int taken, int t) {
            return t % 2 == 1 || super.may(taken, t);
        }

        int gains(int weight, int t) {
            return super.gains(weight, t) - 1;
        }

        int tires() {
            return 1;
        }

        int groans(Host h, int x) {
            return h.begins(30) ? super.groans(h, x) * 3 : 0;
        }
    }

    private static final class Paired extends Shared {
        boolean may(int taken, int t) {
            return true;
        }

        int gains(int weight, int t) {
            return super.gains(weight, t) + (t % 2 == 0 ? 3 : 0);
        }

        int lifts(Host h, int x) {
            return h.begins(50) ? super.lifts(h, x) + h.number : 0;
        }

        int wipes(Host h, int x) {
            return h.begins(51) ? super.wipes(h, x) ^ groans(h, h.number) : 0;
        }
    }

    private static class Held extends Plain {
        boolean may(int taken, int t) {
            return super.may(taken, t) || t > 0 && !isTaken(taken, t - 1);
        }

        int parts(Host h, int x) {
            return h.begins(40) ? super.parts(h, x) ^ h.weight : 0;
        }
    }

    private static final class Unasked extends Held {
        boolean may(int taken, int t) {
            return isTaken(taken, t);
        }

        int gains(int weight, int t) {
            return super.gains(weight, t) * 2;
        }

        int tires() {
            return super.tires() + 1;
        }

        int groans(Host h, int x) {
            return h.begins(60) ? super.groans(h, x + 4) : 0;
        }

        int parts(Host h, int x) {
            return h.begins(61) ? super.parts(h, x) * lifts(h, 1) : 0;
        }
    }

    /** All SETS, MACHINES and MUSCLES as they are in one MINUTE, and how a MINUTE goes by. */
    private static final class Gym {
        final Plain[] kinds;
        final Rules rules;
        final int[][] of = new int[LEFT + 1][SETS];
        int sets;
        final int[][] machine = new int[2][MACHINES];
        final int[] tired = new int[MUSCLES];
        int minute, end = 12, score;
        int chance = 1;
        // The SET that was done in the latest MINUTE, or NONE.
        int done = NONE;
        final int[] facts = new int[5];
        final int[] open = new int[SETS];

        Gym(Plain[] kinds, Rules rules) {
            this.kinds = kinds;
            this.rules = rules;
        }

        void copy(Gym from) {
            for (int what = KIND; what < LEFT; what++) System.arraycopy(from.of[what], 0, of[what], 0, SETS);
            sets = from.sets;
            System.arraycopy(from.machine[TAKEN], 0, machine[TAKEN], 0, MACHINES);
            end = from.end;
            chance = from.chance;
            follow(from);
        }

        // Only what a MINUTE can change, for plans that try many; chance goes on from one to the next.
        void follow(Gym from) {
            System.arraycopy(from.of[LEFT], 0, of[LEFT], 0, SETS);
            System.arraycopy(from.machine[LOAD], 0, machine[LOAD], 0, MACHINES);
            System.arraycopy(from.tired, 0, tired, 0, MUSCLES);
            minute = from.minute;
            score = from.score;
        }

        int add(int kind, int itsMachine, int weight, int muscle) {
            int s = sets;
            sets++;
            of[KIND][s] = kind;
            of[MACHINE][s] = itsMachine;
            of[WEIGHT][s] = weight;
            of[MUSCLE][s] = muscle;
            of[LEFT][s] = 3;
            return s;
        }

        int alterSet(int s, int what, int v) {
            int was = of[what][s];
            of[what][s] = v;
            return was;
        }

        void beginAnew() {
            minute = 0;
            score = 0;
            for (int s = 0; s < sets; s++) of[LEFT][s] = 3;
            for (int i = 0; i < MUSCLES; i++) tired[i] = 0;
            for (int m = 0; m < MACHINES; m++) machine[LOAD][m] = 0;
        }

        boolean has(int s) {
            return s >= 0 && s < sets;
        }

        boolean isAct(int act) {
            return act >= 0 && act <= sets;
        }

        boolean isOfSets(int some) {
            return some >= 0 && some < 1 << sets;
        }

        boolean isOver() {
            return minute >= end;
        }

        int spent() {
            int none = 0;
            for (int s = 0; s < sets; s++) {
                if (of[LEFT][s] == 0) none |= 1 << s;
            }
            return none;
        }

        boolean mayIn(int s, int t) {
            return kinds[of[KIND][s]].may(machine[TAKEN][of[MACHINE][s]], t);
        }

        int gains(int s) {
            return kinds[of[KIND][s]].gains(of[WEIGHT][s], minute);
        }

        int tires(int s) {
            return kinds[of[KIND][s]].tires();
        }

        int will(int s) {
            facts[0] = minute;
            facts[1] = of[WEIGHT][s];
            facts[2] = tired[of[MUSCLE][s]];
            facts[3] = of[LEFT][s];
            facts[4] = s;
            return rules.tell(of[KIND][s], facts);
        }

        int goBy(int act) {
            int s = act - 1;
            int worth = 0;
            done = NONE;
            if (has(s) && of[LEFT][s] > 0 && mayIn(s, minute)) {
                int will = will(s);
                if (will != WAIT) worth = doSet(s, will == EASE);
            }
            int used = done >= 0 ? of[MUSCLE][done] : NONE;
            for (int i = 0; i < MUSCLES; i++) {
                if (i != used && tired[i] > 0) tired[i]--;
            }
            minute++;
            score += worth;
            return worth;
        }

        int doSet(int s, boolean eased) {
            int m = of[MACHINE][s];
            int i = of[MUSCLE][s];
            int away = Math.abs(machine[LOAD][m] - of[WEIGHT][s]);
            // Its KIND is asked straight, not by gains(s): the calls stay eight deep at most.
            int gained = kinds[of[KIND][s]].gains(of[WEIGHT][s], minute);
            int worth = Math.max(0, gained - tired[i] - away / 3);
            tired[i] = Math.min(MOST_TIRED, tired[i] + (eased ? 1 : tires(s)));
            of[LEFT][s]--;
            machine[LOAD][m] = of[WEIGHT][s];
            done = s;
            return eased ? worth / 2 : worth;
        }

        int restAct() {
            for (int s = 0; s < sets; s++) {
                if (of[LEFT][s] > 0 && mayIn(s, minute)) return s + 1;
            }
            return 0;
        }

        int goRest(int n) {
            int worth = 0;
            for (int i = 0; i < n && !isOver(); i++) worth += goBy(restAct());
            return worth;
        }

        int drawAct() {
            chance = chance * 1103515245 + 12345;
            return (chance >>> 16) % (sets + 1);
        }

        int goByLot() {
            int worth = 0;
            for (int i = 0; i < MINUTES && !isOver(); i++) worth += goBy(drawAct());
            return worth;
        }

        int takenIn(int t) {
            int many = 0;
            for (int m = 0; m < MACHINES; m++) many += machine[TAKEN][m] >> t & 1;
            return many;
        }

        int gatherBy(int some) {
            if (some == 0) return minute;
            for (int t = minute; t < end; t++) {
                openUntil(t);
                if (eachHasOne(some)) return t;
            }
            return NONE;
        }

        void openUntil(int last) {
            for (int s = 0; s < sets; s++) {
                open[s] = 0;
                for (int t = minute; t <= last; t++) {
                    if (mayIn(s, t)) open[s] |= 1 << t;
                }
            }
        }

        // By Hall's theorem: each can have a MINUTE of its own if no group is larger than its MINUTES are many.
        boolean eachHasOne(int some) {
            for (int group = 1; group <= some; group++) {
                if ((group & ~some) == 0 && Integer.bitCount(openFor(group)) < Integer.bitCount(group)) return false;
            }
            return true;
        }

        int openFor(int group) {
            int any = 0;
            for (int s = 0; s < sets; s++) {
                if ((group >> s & 1) == 1) any |= open[s];
            }
            return any;
        }

        int firstRow(int some, int last, int asked) {
            openUntil(last);
            for (int s = 0; s <= asked; s++) {
                if ((some >> s & 1) == 1) settle(some, s);
            }
            return leastOf(open[asked]);
        }

        void settle(int some, int s) {
            int all = open[s];
            for (int t = minute; t < end; t++) {
                open[s] = 1 << t;
                if ((all >> t & 1) == 1 && eachHasOne(some)) return;
            }
        }
    }

    /** THE RULES, held as rows of steps that work on a stack of bits, and how their TEXT is read. */
    private static final class Rules {
        private static final int MOST = 8, DEEPEST = 3, MOST_DIGITS = 4;
        // The words of the TEXT, in places of eight letters each: a word's token is the number of its place.
        private static final int PLACE = 8, WORD_COUNT = 18;
        private static final String WORDS = "set     alone   shared  paired  held    unasked lift    ease    wait    if      or      and     not     minute  weight  tired   left    number  ";
        private static final int FIRST_KIND = 0, LAST_KIND = 5, FIRST_DO = 6, LAST_DO = 8;
        private static final int IF = 9, OR = 10, AND = 11, NOT = 12, FIRST_FACT = 13, LAST_FACT = 17;
        // The tokens of other bytes and of NUMBERS stand above all words.
        private static final int END = -1, WRONG = -2, BYTE = 256, NUMBER = 1000;
        private static final int OPEN = BYTE + '(', CLOSE = BYTE + ')', STOP = BYTE + ';';
        private static final int LESS = BYTE + '<', MORE = BYTE + '>';

        int count;
        private final int[] kind = new int[MOST], does = new int[MOST], from = new int[MOST], to = new int[MOST];
        // A step is a SIGN with what stands left and right of it, or NOT, AND, OR of what is on the stack.
        private final int[] step = new int[TAPE], left = new int[TAPE], right = new int[TAPE];
        private int steps;
        private final byte[] tape;
        private final int[] tokens = new int[TAPE + 1], places = new int[TAPE + 1];
        private int at;

        Rules(byte[] tape) {
            this.tape = tape;
        }

        void copy(Rules r) {
            count = r.count;
            steps = r.steps;
            System.arraycopy(r.kind, 0, kind, 0, count);
            System.arraycopy(r.does, 0, does, 0, count);
            System.arraycopy(r.from, 0, from, 0, count);
            System.arraycopy(r.to, 0, to, 0, count);
            System.arraycopy(r.step, 0, step, 0, steps);
            System.arraycopy(r.left, 0, left, 0, steps);
            System.arraycopy(r.right, 0, right, 0, steps);
        }

        int tell(int itsKind, int[] facts) {
            for (int r = 0; r < count; r++) {
                if ((IS[itsKind] >> kind[r] & 1) == 1 && holds(r, facts)) return does[r];
            }
            return LIFT;
        }

        // A rule without a condition has no steps, so that the 1 with which the stack begins is left.
        private boolean holds(int r, int[] facts) {
            long stack = 1;
            for (int i = from[r]; i < to[r]; i++) {
                long under = stack >>> 1;
                if (step[i] == NOT) stack ^= 1;
                else if (step[i] == AND) stack = under & (stack | ~1L);
                else if (step[i] == OR) stack = under | (stack & 1);
                else stack = (stack << 1) | (compares(i, facts) ? 1 : 0);
            }
            return (stack & 1) == 1;
        }

        private boolean compares(int i, int[] facts) {
            int a = left[i] >= 0 ? left[i] : facts[-1 - left[i]];
            int b = right[i] >= 0 ? right[i] : facts[-1 - right[i]];
            if (step[i] == LESS) return a < b;
            return step[i] == MORE ? a > b : a == b;
        }

        // The place of the FAULT, or NONE.
        int read(int size) {
            cut(size);
            at = 0;
            count = 0;
            steps = 0;
            for (int i = 0; i <= TAPE && tokens[at] != END; i++) {
                if (count >= MOST || !readRule()) return places[at];
            }
            return NONE;
        }

        private void cut(int size) {
            int n = 0;
            for (int p = 0; p < size; p++) {
                if (!beginsAt(p)) continue;
                tokens[n] = tokenAt(p, size);
                places[n] = p;
                n++;
            }
            tokens[n] = END;
            places[n] = size;
        }

        private boolean beginsAt(int p) {
            if (isLetter(tape[p])) return p == 0 || !isLetter(tape[p - 1]);
            if (isDigit(tape[p])) return p == 0 || !isDigit(tape[p - 1]);
            return tape[p] != ' ';
        }

        private int tokenAt(int p, int size) {
            if (isLetter(tape[p])) return wordAt(p, size);
            return isDigit(tape[p]) ? numberAt(p, size) : BYTE + (tape[p] & 255);
        }

        private int wordAt(int p, int size) {
            int end = p;
            while (end < size && isLetter(tape[end])) end++;
            for (int w = 0; w < WORD_COUNT; w++) {
                if (isWord(w, p, end - p)) return w;
            }
            return WRONG;
        }

        private boolean isWord(int w, int p, int letters) {
            if (letters >= PLACE || WORDS.charAt(w * PLACE + letters) != ' ') return false;
            for (int i = 0; i < letters; i++) {
                if (WORDS.charAt(w * PLACE + i) != tape[p + i]) return false;
            }
            return true;
        }

        private int numberAt(int p, int size) {
            int number = 0;
            int end = p;
            while (end < size && isDigit(tape[end])) {
                number = number * 10 + tape[end] - '0';
                end++;
            }
            return end - p > MOST_DIGITS ? WRONG : NUMBER + number;
        }

        private boolean readRule() {
            int itsKind = tokens[at];
            if (itsKind < FIRST_KIND || itsKind > LAST_KIND) return false;
            next();
            int begin = steps;
            if (tokens[at] == IF) {
                next();
                if (!readAny(0)) return false;
            }
            int itsDo = tokens[at];
            if (itsDo < FIRST_DO || itsDo > LAST_DO) return false;
            next();
            if (tokens[at] != STOP) return false;
            next();
            kind[count] = itsKind;
            does[count] = itsDo - FIRST_DO;
            from[count] = begin;
            to[count] = steps;
            count++;
            return true;
        }

        private boolean readAny(int depth) {
            if (!readAll(depth)) return false;
            for (int i = 0; i < TAPE && tokens[at] == OR; i++) {
                next();
                if (!readAll(depth)) return false;
                add(OR, 0, 0);
            }
            return true;
        }

        private boolean readAll(int depth) {
            if (!readOne(depth)) return false;
            for (int i = 0; i < TAPE && tokens[at] == AND; i++) {
                next();
                if (!readOne(depth)) return false;
                add(AND, 0, 0);
            }
            return true;
        }

        private boolean readOne(int depth) {
            boolean denied = false;
            for (int i = 0; i < TAPE && tokens[at] == NOT; i++) {
                denied = !denied;
                next();
            }
            boolean well = tokens[at] == OPEN ? readInner(depth) : readCompare();
            if (well && denied) add(NOT, 0, 0);
            return well;
        }

        private boolean readInner(int depth) {
            if (depth >= DEEPEST) return false;
            next();
            if (!readAny(depth + 1) || tokens[at] != CLOSE) return false;
            next();
            return true;
        }

        private boolean readCompare() {
            int a = tokens[at];
            if (!isValue(a)) return false;
            next();
            int sign = tokens[at];
            if (sign < LESS || sign > MORE) return false;
            next();
            int b = tokens[at];
            if (!isValue(b)) return false;
            next();
            add(sign, operand(a), operand(b));
            return true;
        }

        private static boolean isValue(int token) {
            return token >= NUMBER || token >= FIRST_FACT && token <= LAST_FACT;
        }

        // A NUMBER as it is, a fact as a number below 0.
        private static int operand(int token) {
            return token >= NUMBER ? token - NUMBER : FIRST_FACT - 1 - token;
        }

        private void add(int which, int a, int b) {
            if (steps >= TAPE) return;
            step[steps] = which;
            left[steps] = a;
            right[steps] = b;
            steps++;
        }

        private void next() {
            if (at < TAPE) at++;
        }

        private static boolean isLetter(int c) {
            return c >= 'a' && c <= 'z';
        }

        private static boolean isDigit(int c) {
            return c >= '0' && c <= '9';
        }
    }

    /** All PLANS of up to four MINUTES, gone through at once, and the GAME. */
    private static final class Plans {
        // How all is behind so many MINUTES of the plan that is tried.
        private final Gym[] behind = new Gym[PLAN + 1];
        private final int[] acts = new int[PLAN];
        private int minutes, asked;
        final int[] first = new int[PLAN];
        int length, most, ways, fewest, everDone;
        int value, firstMove;

        Plans(Plain[] kinds, Rules rules) {
            for (int i = 0; i <= PLAN; i++) behind[i] = new Gym(kinds, rules);
        }

        private void begin(Gym gym, int n) {
            minutes = Math.min(n, gym.end - gym.minute);
            for (int i = 0; i <= minutes; i++) behind[i].copy(gym);
        }

        void search(Gym gym, int n, int sets) {
            begin(gym, n);
            asked = sets;
            length = minutes;
            most = -1;
            ways = 0;
            fewest = PLAN + 1;
            everDone = 0;
            walk(0, 0, 0, 0);
        }

        private void walk(int depth, int worth, int told, int done) {
            if (depth >= minutes) {
                weigh(worth, told, done);
                return;
            }
            Gym then = behind[depth + 1];
            for (int act = 0; act <= then.sets; act++) {
                then.follow(behind[depth]);
                int more = then.goBy(act);
                acts[depth] = act;
                int doneThen = then.done >= 0 ? done | 1 << then.done : done;
                walk(depth + 1, worth + more, act == 0 ? told : told + 1, doneThen);
            }
        }

        private void weigh(int worth, int told, int done) {
            everDone |= done;
            if ((asked & ~done) == 0) fewest = Math.min(fewest, told);
            if (worth == most) ways++;
            if (worth <= most) return;
            most = worth;
            ways = 1;
            for (int i = 0; i < length; i++) first[i] = acts[i];
        }

        void match(Gym gym, int n) {
            begin(gym, n);
            value = playOn(0);
        }

        private int playOn(int depth) {
            if (depth >= minutes) return 0;
            boolean wantsMuch = depth % 2 == 0;
            Gym then = behind[depth + 1];
            int best = 0;
            for (int act = 0; act <= then.sets; act++) {
                then.follow(behind[depth]);
                int worth = then.goBy(act) + playOn(depth + 1);
                if (act > 0 && (wantsMuch ? worth <= best : worth >= best)) continue;
                best = worth;
                if (depth == 0) firstMove = act;
            }
            return best;
        }
    }

    /** REPORTS of how often a man had sat there, and the MEN that FIT. */
    private static final class Men {
        private final int[] behind = new int[REPORTS], least = new int[REPORTS], most = new int[REPORTS];
        int reports;
        int found, start, pause, times, liar;

        void copy(Men from) {
            System.arraycopy(from.behind, 0, behind, 0, REPORTS);
            System.arraycopy(from.least, 0, least, 0, REPORTS);
            System.arraycopy(from.most, 0, most, 0, REPORTS);
            reports = from.reports;
        }

        int add(int k, int fewest, int highest) {
            behind[reports] = k;
            least[reports] = fewest;
            most[reports] = highest;
            reports++;
            return reports - 1;
        }

        void look() {
            found = 0;
            liar = REPORTS;
            for (int a = 0; a < MINUTES; a++) {
                for (int p = 1; p <= 4; p++) {
                    for (int n = 1; n <= 4; n++) lookAt(a, p, n);
                }
            }
        }

        private void lookAt(int a, int p, int n) {
            int wrong = 0;
            int which = REPORTS;
            for (int r = 0; r < reports; r++) {
                int sat = sat(a, p, n, behind[r]);
                if (sat >= least[r] && sat <= most[r]) continue;
                wrong++;
                which = r;
            }
            if (wrong == 1) liar = Math.min(liar, which);
            if (wrong > 0) return;
            if (found == 0) {
                start = a;
                pause = p;
                times = n;
            }
            found++;
        }

        private static int sat(int a, int p, int n, int k) {
            int many = 0;
            for (int i = 0; i < n; i++) {
                if (a + i * p <= k) many++;
            }
            return many;
        }
    }

    /** SHEETS, what is on the SHELVES, and the thing that acts with its TRACE. */
    private static final class Host {
        private final Plain[] kinds;
        final int[] sort = {MISSING, MISSING, MISSING, MISSING}, size = new int[SHEETS];
        final int[][] item = new int[SHEETS][ITEMS];
        final int[] holds = {HOLDS_NOTHING, HOLDS_NOTHING, HOLDS_NOTHING, HOLDS_NOTHING};
        // Of a SET its number; of a row its sort and length: a row stays on the SHELF when its SHEET becomes another.
        final int[] thing = new int[SHELVES], length = new int[SHELVES];
        int number, weight;
        boolean stopped;
        final int[] trace = new int[TRACE];
        int traced;

        Host(Plain[] kinds) {
            this.kinds = kinds;
        }

        void lay(int sheet, int itsSort, int n) {
            sort[sheet] = itsSort;
            size[sheet] = n;
            for (int i = 0; i < ITEMS; i++) item[sheet][i] = 0;
        }

        // What forbids to take a SHEET for a sort, or 0; a missing one is of every sort, but there is nothing in it.
        int refusal(int sheet, int as) {
            if (sort[sheet] == MISSING) return NOTHING;
            return sort[sheet] == as ? 0 : OTHER_SORT;
        }

        boolean hasItem(int sheet, int i) {
            return i >= 0 && i < size[sheet];
        }

        int narrowed(int itsSort, int v) {
            if (itsSort == BYTES) return (byte) v;
            if (itsSort == SHORTS) return (short) v;
            if (itsSort == BOOLEANS) return v != 0 ? 1 : 0;
            return v;
        }

        void putSet(int shelf, int s) {
            holds[shelf] = HOLDS_SET;
            thing[shelf] = s;
        }

        void putRow(int shelf, int sheet) {
            holds[shelf] = sort[sheet] == MISSING ? HOLDS_NOTHING : HOLDS_ROW;
            thing[shelf] = sort[sheet];
            length[shelf] = size[sheet];
        }

        Plain hold(int s, Gym gym) {
            number = s;
            weight = gym.of[WEIGHT][s];
            stopped = false;
            return kinds[gym.of[KIND][s]];
        }

        // Whether a body runs: behind a parting by 0 none does.
        boolean begins(int body) {
            if (stopped) return false;
            if (traced < TRACE) {
                trace[traced] = body;
                traced++;
            }
            return true;
        }
    }
}
