/** Promises 1 to 11, by the sentences of the document that name an edge. */
public final class GymEdgesTest {
    public static void main(String[] args) {
        newObject();
        atFirst();
        set();
        setFull();
        setOf();
        may();
        mayBehindAll();
        gains();
        tires();
        will();
        change();
        remake();
        machine();
        tire();
        ends();
        anew();
        state();
        Due.end("GymEdgesTest");
    }

    private static void newObject() {
        Due.by(1, "No SETS, RULES, REPORTS; nothing is kept.");
        Edges.still("many(0)", BenchTowels::new, x -> x.many(0), 0);
        Edges.still("many(1)", BenchTowels::new, x -> x.many(1), 0);
        Edges.still("many(3)", BenchTowels::new, x -> x.many(3), 0);
        Edges.still("again()", BenchTowels::new, x -> x.again(), -3);
        Edges.still("setOf(0, 0)", BenchTowels::new, x -> x.setOf(0, 0), -1);
        Edges.still("rules() of an empty TAPE", BenchTowels::new, x -> x.rules(), 0);
        Edges.still("forget()", BenchTowels::new, x -> x.forget(), 0);
        Edges.busy();
        Edges.still("a new one beside one that is used: many(0)", BenchTowels::new, x -> x.many(0), 0);
        BenchTowels a = new BenchTowels();
        BenchTowels b = new BenchTowels();
        a.set(1, 2, 3, 1);
        a.machine(2, 0, 4);
        a.keep();
        Due.is("SETS of another object", b.many(0), 0);
        Due.is("LOAD of another object", b.machineOf(2, 0), 0);
        Due.is("what another object keeps", b.again(), -3);
    }

    private static void atFirst() {
        BenchTowels x = new BenchTowels();
        Due.by(1, "each with a LOAD (0 to 9; 0 at first), TAKEN in a set of MINUTES 0 to 15 (none at first)");
        for (int m = 0; m <= 5; m++) {
            Due.is("machineOf(" + m + ", 0)", x.machineOf(m, 0), 0);
            Due.is("machineOf(" + m + ", 1)", x.machineOf(m, 1), 0);
        }
        Due.by(1, "each TIRED (0 to 9; 0 at first)");
        for (int what = 5; what <= 7; what++) Due.is("state(" + what + ")", x.state(what), 0);
        Due.by(1, "END is 1 to 16 (12 at first)");
        Due.is("state(1)", x.state(1), 12);
        Due.by(1, "MINUTE: the one that comes (0 at first)");
        Due.is("state(0)", x.state(0), 0);
        Due.is("state(2), SCORE", x.state(2), 0);
        Due.is("state(3), OVER", x.state(3), 0);
        Due.by(1, "z (an int; 1 at first)");
        Due.is("seed(1)", x.seed(1), 1);
        Due.by(1, "or missing (at first)");
        for (int sheet = 0; sheet <= 3; sheet++) Due.is("item(" + sheet + ", 0, 0)", x.item(sheet, 0, 0), -11);
        Due.by(1, "or nothing (at first)");
        for (int shelf = 0; shelf <= 3; shelf++) Due.is("taken(" + shelf + ", 0)", x.taken(shelf, 0), -11);
        Due.by(1, "A new object");
        Due.is("no ROWS: many(4)", x.many(4), 0);
        Due.is("an empty TAPE: many(5)", x.many(5), 0);
        Due.is("no TRACE: many(6)", x.many(6), 0);
    }

    private static void set() {
        Due.by(2, "A SET of a KIND 1 to 5: its number.");
        Edges.bounds("set(v, 0, 1, 0)", Edges::busy, (x, v) -> x.set(v, 0, 1, 0), 1, 5, -1);
        for (int kind = 1; kind <= 5; kind++) {
            BenchTowels x = Edges.busy();
            Due.is("set(" + kind + ", 0, 1, 0)", x.set(kind, 0, 1, 0), 5);
            Due.is("its KIND", x.setOf(5, 0), kind);
        }
        Due.by(2, "MACHINES 0 to 5");
        Edges.bounds("set(1, v, 1, 0)", Edges::busy, (x, v) -> x.set(1, v, 1, 0), 0, 5, -1);
        Due.by(2, "WEIGHT (1 to 9)");
        Edges.bounds("set(1, 0, v, 0)", Edges::busy, (x, v) -> x.set(1, 0, v, 0), 1, 9, -1);
        Due.by(2, "MUSCLES 0 to 2");
        Edges.bounds("set(1, 0, 1, v)", Edges::busy, (x, v) -> x.set(1, 0, 1, v), 0, 2, -1);
        BenchTowels x = new BenchTowels();
        Due.is("the least of all: set(1, 0, 1, 0)", x.set(1, 0, 1, 0), 0);
        Due.is("the most of all: set(5, 5, 9, 2)", x.set(5, 5, 9, 2), 1);
        int[][] due = {{1, 0, 1, 0, 3}, {5, 5, 9, 2, 3}};
        for (int i = 0; i < 10; i++) Due.is("setOf(" + i / 5 + ", " + i % 5 + ")", x.setOf(i / 5, i % 5), due[i / 5][i % 5]);
        Due.by(2, "LEFT (0 to 9; 3 at first)");
        for (int s = 0; s <= 1; s++) Due.is("setOf(" + s + ", 4)", x.setOf(s, 4), 3);
    }

    private static void setFull() {
        Due.by(2, "SETS, 6 at most, numbered as they come");
        BenchTowels x = new BenchTowels();
        for (int s = 0; s <= 5; s++) Due.is("set() for the " + s + "th", x.set(1, 0, 1, 0), s);
        Due.is("set() for a seventh", x.set(1, 0, 1, 0), -2);
        Due.is("many(0)", x.many(0), 6);
        Edges.still("set() for a seventh", Edges::full, y -> y.set(1, 0, 1, 0), -2);
        Due.by(2, "of several the first named");
        Edges.still("a seventh, KIND 0", Edges::full, y -> y.set(0, 0, 1, 0), -1);
        Edges.still("a seventh, KIND 6", Edges::full, y -> y.set(6, 0, 1, 0), -1);
        Edges.still("a seventh, MACHINE -1", Edges::full, y -> y.set(1, -1, 1, 0), -1);
        Edges.still("a seventh, MACHINE 6", Edges::full, y -> y.set(1, 6, 1, 0), -1);
        Edges.still("a seventh, WEIGHT 0", Edges::full, y -> y.set(1, 0, 0, 0), -1);
        Edges.still("a seventh, WEIGHT 10", Edges::full, y -> y.set(1, 0, 10, 0), -1);
        Edges.still("a seventh, MUSCLE -1", Edges::full, y -> y.set(1, 0, 1, -1), -1);
        Edges.still("a seventh, MUSCLE 3", Edges::full, y -> y.set(1, 0, 1, 3), -1);
    }

    private static void setOf() {
        Due.by(3, "Of a SET: what = 0 KIND");
        Edges.bounds("setOf(v, 0) of five SETS", Edges::busy, (x, v) -> x.setOf(v, 0), 0, 4, -1);
        Edges.bounds("setOf(v, 0) of six SETS", Edges::full, (x, v) -> x.setOf(v, 0), 0, 5, -1);
        Due.by(3, "8 WILL as all is now (0 lift, 1 ease, 2 wait)");
        Edges.bounds("setOf(0, v)", Edges::busy, (x, v) -> x.setOf(0, v), 0, 8, -1);
        Due.by(3, "What is asked changes nothing");
        int[] due = {2, 1, 5, 1, 2, 1, 4, 1, 0};
        for (int what = 0; what <= 8; what++) {
            int asked = what;
            Edges.still("setOf(1, " + what + ")", Edges::busy, x -> x.setOf(1, asked), due[what]);
        }
    }

    /** A SET of a KIND, none LEFT, at MACHINE 3 that is TAKEN so, in a MINUTE. */
    private static BenchTowels at(int kind, int weight, int taken, int minute) {
        BenchTowels x = new BenchTowels();
        x.set(kind, 3, weight, 1);
        x.change(0, 4, 0);
        x.machine(3, 1, taken);
        x.ends(16);
        for (int t = 0; t < minute; t++) x.minute();
        return x;
    }

    private static void may(int kind, int taken, int minute, int due) {
        Due.is("MAY of KIND " + kind + ", TAKEN " + Integer.toBinaryString(taken) + ", in " + minute,
            at(kind, 5, taken, minute).setOf(0, 5), due);
    }

    private static void may() {
        Due.by(3, "alone: as a set, but not in MINUTE 0.");
        may(1, 0, 0, 0);
        may(1, 1, 0, 0);
        may(1, 0, 1, 1);
        may(1, 1, 1, 1);
        may(1, 0b10, 1, 0);
        may(1, 0b101, 1, 1);
        may(1, 0x8000, 15, 0);
        may(1, 0x7fff, 15, 1);
        Due.by(3, "shared: as a set; also in odd MINUTES.");
        may(2, 0, 0, 1);
        may(2, 1, 0, 0);
        may(2, 0xffff, 1, 1);
        may(2, 0xffff, 2, 0);
        may(2, 0xfffb, 2, 1);
        may(2, 0xffff, 14, 0);
        may(2, 0xffff, 15, 1);
        Due.by(3, "paired: always.");
        for (int t = 0; t <= 16; t++) may(3, 0xffff, t, 1);
        may(3, 0, 0, 1);
        Due.by(3, "held: as a set; also if its MACHINE wasn't TAKEN in the MINUTE ahead (there is none ahead of MINUTE 0).");
        may(4, 0, 0, 1);
        may(4, 1, 0, 0);
        may(4, 0xffff, 0, 0);
        may(4, 0b10, 1, 1);
        may(4, 0b11, 1, 0);
        may(4, 0b01, 1, 1);
        may(4, 0x8000, 15, 1);
        may(4, 0xc000, 15, 0);
        may(4, 0x4000, 15, 1);
        Due.by(3, "unasked: just if its MACHINE is TAKEN.");
        may(5, 0, 0, 0);
        may(5, 1, 0, 1);
        may(5, 0xfffe, 0, 0);
        may(5, 0b10, 1, 1);
        may(5, 0b101, 1, 0);
        may(5, 0x8000, 15, 1);
        may(5, 0x7fff, 15, 0);
        Due.by(3, "set: its MACHINE isn't TAKEN in it.");
        BenchTowels x = at(4, 5, 1, 0);
        x.machine(2, 1, 0xffff);
        x.machine(4, 1, 0xffff);
        x.machine(3, 1, 0);
        Due.is("MAY, when all other MACHINES are TAKEN", x.setOf(0, 5), 1);
        x.machine(3, 1, 1);
        x.machine(2, 1, 0);
        x.machine(4, 1, 0);
        Due.is("MAY, when just its MACHINE is TAKEN", x.setOf(0, 5), 0);
        x.change(0, 1, 5);
        Due.is("MAY at the MACHINE 5", x.setOf(0, 5), 1);
        x.machine(5, 1, 1);
        Due.is("MAY at the MACHINE 5, TAKEN", x.setOf(0, 5), 0);
    }

    private static void mayBehindAll() {
        Due.by(3, "TAKEN in a set of MINUTES 0 to 15");
        int[] due = {1, 1, 1, 1, 0};
        for (int kind = 1; kind <= 5; kind++) may(kind, 0xffff, 16, due[kind - 1]);
    }

    private static void gains() {
        String[] words = {"alone: 2 more than a set.", "shared: 1 less than a set.", "paired: as shared, and 3 in even MINUTES.",
            "held: as a set.", "unasked: twice as held."};
        int[][] even = {{3, 11}, {0, 8}, {3, 11}, {1, 9}, {2, 18}};
        int[][] odd = {{3, 11}, {0, 8}, {0, 8}, {1, 9}, {2, 18}};
        for (int kind = 1; kind <= 5; kind++) {
            Due.by(3, words[kind - 1]);
            for (int t : new int[] {0, 1, 2, 14, 15, 16}) {
                int[] all = t % 2 == 0 ? even[kind - 1] : odd[kind - 1];
                Due.is("GAINS of WEIGHT 1 in " + t, at(kind, 1, 0, t).setOf(0, 6), all[0]);
                Due.is("GAINS of WEIGHT 9 in " + t, at(kind, 9, 0, t).setOf(0, 6), all[1]);
            }
        }
    }

    private static void tires() {
        String[] words = {"TIRES: set: 2. alone: 3.", "shared: 1.", "paired: as shared.", "held: as a set.", "unasked: 1 more than held."};
        int[] due = {3, 1, 1, 2, 3};
        for (int kind = 1; kind <= 5; kind++) {
            Due.by(3, words[kind - 1]);
            Due.is("TIRES of WEIGHT 1 in 0", at(kind, 1, 0, 0).setOf(0, 7), due[kind - 1]);
            Due.is("TIRES of WEIGHT 9 in 15", at(kind, 9, 0xffff, 15).setOf(0, 7), due[kind - 1]);
        }
    }

    private static void will() {
        Due.by(3, "lift (if no RULE tells)");
        BenchTowels x = Due.ofEachKind(5);
        for (int s = 0; s < 5; s++) Due.is("setOf(" + s + ", 8) without RULES", x.setOf(s, 8), 0);
        Due.rules(x, "set if 1 > 1 wait;");
        for (int s = 0; s < 5; s++) Due.is("setOf(" + s + ", 8) when none holds", x.setOf(s, 8), 0);
        Due.by(3, "the first of THE RULES whose KIND is its or above it, and whose condition holds, tells it");
        String[] kinds = {"set", "alone", "shared", "paired", "held", "unasked"};
        String[] wait = {"22222", "20000", "02200", "00200", "00022", "00002"};
        for (int k = 0; k < 6; k++) {
            x = Due.ofEachKind(5);
            Due.rules(x, kinds[k] + " if 1 > 1 ease;" + kinds[k] + " wait;" + kinds[k] + " ease;");
            for (int s = 0; s < 5; s++) Due.is("'" + kinds[k] + "': setOf(" + s + ", 8)", x.setOf(s, 8), wait[k].charAt(s) - '0');
        }
        x = Due.ofEachKind(5);
        Due.rules(x, "set lift;".repeat(7) + "set wait;");
        Due.is("the first of eight", x.setOf(0, 8), 0);
        Due.rules(x, "set if 1>1 lift;".repeat(7) + "set wait;");
        Due.is("the last of eight", x.setOf(0, 8), 2);
        x.ends(1);
        x.minute();
        Due.is("when it is OVER", x.setOf(0, 8), 2);
    }

    private static void change() {
        Due.by(4, "MACHINE (what 1), WEIGHT (2), MUSCLE (3), LEFT (4) of a SET becomes v: what it was.");
        Edges.bounds("change(1, v, 1)", Edges::busy, (x, v) -> x.change(1, v, 1), 1, 4, -1);
        Edges.bounds("change(v, 2, 1) of five SETS", Edges::busy, (x, v) -> x.change(v, 2, 1), 0, 4, -1);
        Edges.bounds("change(v, 2, 1) of six SETS", Edges::full, (x, v) -> x.change(v, 2, 1), 0, 5, -1);
        int[] was = {1, 5, 1, 2};
        int[][] ends = {{0, 5}, {1, 9}, {0, 2}, {0, 9}};
        String[] words = {"MACHINES 0 to 5", "WEIGHT (1 to 9)", "MUSCLES 0 to 2", "LEFT (0 to 9; 3 at first)"};
        for (int what = 1; what <= 4; what++) {
            Due.by(4, words[what - 1]);
            int asked = what;
            int[] of = ends[what - 1];
            Edges.bounds("change(1, " + what + ", v)", Edges::busy, (x, v) -> x.change(1, asked, v), of[0], of[1], -1);
            BenchTowels x = Edges.busy();
            Due.is("change(1, " + what + ", the least)", x.change(1, what, of[0]), was[what - 1]);
            Due.is("setOf(1, " + what + ")", x.setOf(1, what), of[0]);
            Due.is("change(1, " + what + ", the most)", x.change(1, what, of[1]), of[0]);
            Due.is("setOf(1, " + what + ")", x.setOf(1, what), of[1]);
            for (int other = 0; other <= 4; other++) {
                if (other != what) Due.is("what stays: setOf(1, " + other + ")", x.setOf(1, other), other == 0 ? 2 : was[other - 1]);
            }
            Edges.still("change(1, " + what + ", as it is)", Edges::busy, y -> y.change(1, asked, was[asked - 1]), was[what - 1]);
        }
    }

    private static void remake() {
        Due.by(5, "A SET becomes one of another KIND (1 to 5): the KIND that it was.");
        Edges.bounds("remake(1, v)", Edges::busy, (x, v) -> x.remake(1, v), 1, 5, -1);
        Edges.bounds("remake(v, 1) of five SETS", Edges::busy, (x, v) -> x.remake(v, 1), 0, 4, -1);
        Edges.bounds("remake(v, 1) of six SETS", Edges::full, (x, v) -> x.remake(v, 1), 0, 5, -1);
        BenchTowels x = Edges.busy();
        int was = 2;
        for (int kind : new int[] {1, 5, 4, 3, 2}) {
            Due.is("remake(1, " + kind + ")", x.remake(1, kind), was);
            Due.is("setOf(1, 0)", x.setOf(1, 0), kind);
            was = kind;
        }
        int[] stays = {2, 1, 5, 1, 2};
        for (int what = 1; what <= 4; what++) Due.is("what stays: setOf(1, " + what + ")", x.setOf(1, what), stays[what]);
    }

    private static void machine() {
        Due.by(6, "MACHINES 0 to 5");
        Edges.bounds("machine(v, 0, 1)", Edges::busy, (x, v) -> x.machine(v, 0, 1), 0, 5, -1);
        Edges.bounds("machine(v, 1, 1)", Edges::busy, (x, v) -> x.machine(v, 1, 1), 0, 5, -1);
        Due.by(6, "Of a MACHINE: LOAD (what 0), MINUTES in which it is TAKEN (1, as a set) becomes v: what it was.");
        Edges.bounds("machine(0, v, 1)", Edges::busy, (x, v) -> x.machine(0, v, 1), 0, 1, -1);
        Due.by(6, "each with a LOAD (0 to 9; 0 at first)");
        Edges.bounds("machine(0, 0, v)", Edges::busy, (x, v) -> x.machine(0, 0, v), 0, 9, -1);
        Due.by(6, "TAKEN in a set of MINUTES 0 to 15 (none at first)");
        Edges.bounds("machine(0, 1, v)", Edges::busy, (x, v) -> x.machine(0, 1, v), 0, 65535, -1);
        Due.by(7, "Of a MACHINE: what = 0 LOAD, 1 MINUTES in which it is TAKEN, as a set.");
        Edges.bounds("machineOf(v, 0)", Edges::busy, (x, v) -> x.machineOf(v, 0), 0, 5, -1);
        Edges.bounds("machineOf(v, 1)", Edges::busy, (x, v) -> x.machineOf(v, 1), 0, 5, -1);
        Edges.bounds("machineOf(0, v)", Edges::busy, (x, v) -> x.machineOf(0, v), 0, 1, -1);
        Edges.still("machineOf(4, 0)", Edges::busy, x -> x.machineOf(4, 0), 7);
        Edges.still("machineOf(2, 1)", Edges::busy, x -> x.machineOf(2, 1), 36);
        for (int m = 0; m <= 5; m++) {
            BenchTowels x = new BenchTowels();
            Due.is("machine(" + m + ", 0, 9)", x.machine(m, 0, 9), 0);
            Due.is("machine(" + m + ", 1, 65535)", x.machine(m, 1, 65535), 0);
            for (int i = 0; i < 12; i++) {
                int due = i / 2 != m ? 0 : i % 2 == 0 ? 9 : 65535;
                Due.is("machineOf(" + i / 2 + ", " + i % 2 + ")", x.machineOf(i / 2, i % 2), due);
            }
            Due.is("machine(" + m + ", 0, 0)", x.machine(m, 0, 0), 9);
            Due.is("machine(" + m + ", 1, 0)", x.machine(m, 1, 0), 65535);
            Due.is("machineOf(" + m + ", 0)", x.machineOf(m, 0), 0);
            Due.is("machineOf(" + m + ", 1)", x.machineOf(m, 1), 0);
        }
    }

    private static void tire() {
        Due.by(8, "MUSCLES 0 to 2");
        Edges.bounds("tire(v, 1)", Edges::busy, (x, v) -> x.tire(v, 1), 0, 2, -1);
        Due.by(8, "each TIRED (0 to 9; 0 at first)");
        Edges.bounds("tire(0, v)", Edges::busy, (x, v) -> x.tire(0, v), 0, 9, -1);
        Due.by(8, "How TIRED a MUSCLE is becomes v: what it was.");
        for (int i = 0; i <= 2; i++) {
            BenchTowels x = new BenchTowels();
            Due.is("tire(" + i + ", 9)", x.tire(i, 9), 0);
            for (int j = 0; j <= 2; j++) Due.is("state(" + (5 + j) + ")", x.state(5 + j), i == j ? 9 : 0);
            Due.is("tire(" + i + ", 0)", x.tire(i, 0), 9);
            Due.is("state(" + (5 + i) + ")", x.state(5 + i), 0);
        }
    }

    private static void ends() {
        Due.by(9, "END is 1 to 16 (12 at first)");
        Edges.bounds("ends(v) of a new one", BenchTowels::new, (x, v) -> x.ends(v), 1, 16, -1);
        Due.by(9, "STATE: v is below MINUTE.");
        for (int v = 1; v <= 2; v++) {
            int end = v;
            Edges.still("ends(" + v + ") in MINUTE 3", Edges::busy, x -> x.ends(end), -4);
        }
        BenchTowels x = Edges.busy();
        Due.is("ends(3) in MINUTE 3", x.ends(3), 9);
        Due.is("state(1)", x.state(1), 3);
        Due.is("ends(16)", x.ends(16), 3);
        for (int t = 3; t < 16; t++) x.minute();
        Due.is("ends(15) in MINUTE 16", x.ends(15), -4);
        Due.is("ends(1) in MINUTE 16", x.ends(1), -4);
        Due.is("ends(16) in MINUTE 16", x.ends(16), 16);
        Due.by(9, "of several the first named");
        for (int v : new int[] {0, -1, Edges.MIN}) {
            int end = v;
            Edges.still("ends(" + v + ") in MINUTE 3", Edges::busy, y -> y.ends(end), -1);
        }
        Due.by(9, "from END on it is OVER");
        x = Edges.busy();
        x.ends(4);
        Due.is("state(3) in the MINUTE ahead of END", x.state(3), 0);
        x.ends(3);
        Due.is("state(3) in MINUTE END", x.state(3), 1);
        x.ends(9);
        Due.is("state(3), END later", x.state(3), 0);
    }

    private static void anew() {
        Due.by(10, "MINUTE is 0 again, SCORE 0, 3 of each SET are LEFT, no MUSCLE is TIRED, each LOAD is 0: what MINUTE was.");
        Edges.still("anew() of a new one", BenchTowels::new, y -> y.anew(), 0);
        BenchTowels x = new BenchTowels();
        for (int s = 0; s <= 5; s++) {
            x.set(s % 5 + 1, s, s + 1, s % 3);
            x.change(s, 4, new int[] {0, 9, 1, 2, 4, 0}[s]);
            x.machine(s, 0, 9 - s);
            x.machine(s, 1, 1 << s);
        }
        x.ends(16);
        x.seed(-5);
        for (int t = 0; t < 16; t++) x.minute();
        for (int i = 0; i <= 2; i++) x.tire(i, 9 - i);
        Due.is("OVER", x.state(3), 1);
        Due.is("SCORE is more than 0", x.state(2) > 0 ? 1 : 0, 1);
        Due.is("anew() in MINUTE 16", x.anew(), 16);
        int[] state = {0, 16, 0, 0, 0, 0, 0, 0};
        for (int what = 0; what <= 7; what++) Due.is("state(" + what + ")", x.state(what), state[what]);
        for (int s = 0; s <= 5; s++) {
            int[] of = {s % 5 + 1, s, s + 1, s % 3, 3};
            for (int what = 0; what <= 4; what++) Due.is("setOf(" + s + ", " + what + ")", x.setOf(s, what), of[what]);
            Due.is("machineOf(" + s + ", 0)", x.machineOf(s, 0), 0);
            Due.is("what stays: machineOf(" + s + ", 1)", x.machineOf(s, 1), 1 << s);
        }
        Due.is("what stays: z", x.seed(1), -5);
        Due.is("anew() in MINUTE 0", x.anew(), 0);
        x = Edges.busy();
        x.anew();
        int[] many = {5, 2, 0, 2, 3, 10, 8};
        for (int what : new int[] {0, 1, 2, 4, 5, 6}) Due.is("what stays: many(" + what + ")", x.many(what), many[what]);
        Due.is("what stays: many(3)", x.many(3), 3);
    }

    private static void state() {
        Due.by(11, "5 to 7 how TIRED MUSCLE 0, 1, 2 is.");
        Edges.bounds("state(v)", Edges::busy, (x, v) -> x.state(v), 0, 7, -1);
        BenchTowels x = new BenchTowels();
        for (int i = 0; i <= 2; i++) x.tire(i, 7 + i);
        for (int i = 0; i <= 2; i++) Due.is("state(" + (5 + i) + ")", x.state(5 + i), 7 + i);
        Due.by(11, "4 SETS of which none is LEFT, as a set");
        x = new BenchTowels();
        Due.is("state(4) without SETS", x.state(4), 0);
        int due = 0;
        for (int s = 0; s <= 5; s++) {
            x.set(1, 0, 1, 0);
            x.change(s, 4, 1);
            Due.is("state(4) when 1 is LEFT of " + s, x.state(4), due);
            x.change(s, 4, 0);
            due |= 1 << s;
            Due.is("state(4) when none is LEFT of " + s, x.state(4), due);
        }
        Due.by(11, "3 1 if it is OVER, else 0");
        x = new BenchTowels();
        x.ends(16);
        for (int t = 0; t < 16; t++) {
            Due.is("state(0)", x.state(0), t);
            Due.is("state(3) in " + t, x.state(3), 0);
            x.minute();
        }
        Due.is("state(0)", x.state(0), 16);
        Due.is("state(3) in 16", x.state(3), 1);
        x = new BenchTowels();
        x.ends(1);
        Due.is("state(3) in 0, END 1", x.state(3), 0);
        x.minute();
        Due.is("state(3) in 1, END 1", x.state(3), 1);
    }
}
