/** Promises 1 to 11: the gym, sets. */
public final class GymTest {
    public static void main(String[] args) {
        newObject();
        set();
        setOf();
        mayByMinute();
        gainsByMinute();
        change();
        remake();
        machines();
        tire();
        ends();
        anew();
        state();
        Due.end("GymTest");
    }

    // Promise 1
    private static void newObject() {
        BenchTowels x = new BenchTowels();
        for (int what = 0; what <= 6; what++) Due.is("new: many(" + what + ")", x.many(what), 0);
        int[] state = {0, 12, 0, 0, 0, 0, 0, 0};
        for (int what = 0; what <= 7; what++) Due.is("new: state(" + what + ")", x.state(what), state[what]);
        for (int m = 0; m < 6; m++) {
            Due.is("new: load of " + m, x.machineOf(m, 0), 0);
            Due.is("new: taken of " + m, x.machineOf(m, 1), 0);
        }
        Due.is("new: again()", x.again(), -3);
        Due.is("new: seed", x.seed(5), 1);
        Due.is("new: liar", x.liar(), -3);
        Due.is("new: row", x.row(0, 0), -9);
        for (int i = 0; i < 4; i++) {
            Due.is("new: item", x.item(i, 0, 0), -11);
            Due.is("new: taken", x.taken(i, 0), -11);
        }
        Due.is("new: trace", x.trace(0), -3);
        Due.is("BAD", BenchTowels.BAD, -1);
        Due.is("FULL", BenchTowels.FULL, -2);
        Due.is("NONE", BenchTowels.NONE, -3);
        Due.is("STATE", BenchTowels.STATE, -4);
    }

    // Promise 2
    private static void set() {
        BenchTowels x = new BenchTowels();
        int[][] bad = {{0, 0, 1, 0}, {6, 0, 1, 0}, {-1, 0, 1, 0}, {1, -1, 1, 0}, {1, 6, 1, 0}, {1, 0, 0, 0}, {1, 0, 10, 0},
            {1, 0, 1, -1}, {1, 0, 1, 3}, {Integer.MIN_VALUE, 0, 1, 0}, {1, Integer.MAX_VALUE, 1, 0}};
        for (int[] b : bad) Due.is("set of wrong numbers", x.set(b[0], b[1], b[2], b[3]), -1);
        Due.is("none came", x.many(0), 0);
        Due.is("set(1, 0, 1, 0)", x.set(1, 0, 1, 0), 0);
        Due.is("set(5, 5, 9, 2)", x.set(5, 5, 9, 2), 1);
        for (int i = 2; i < 6; i++) Due.is("set no. " + i, x.set(i, i, i, 1), i < 6 ? i : -2);
        Due.is("a seventh", x.set(1, 0, 1, 0), -2);
        Due.is("a seventh, wrong: the first named", x.set(6, 0, 1, 0), -1);
        Due.is("how many", x.many(0), 6);
        Due.is("what the second is", x.setOf(1, 0) * 1000 + x.setOf(1, 1) * 100 + x.setOf(1, 2) * 10 + x.setOf(1, 3), 5592);
    }

    // Promise 3
    private static void setOf() {
        BenchTowels x = Due.ofEachKind(7);
        for (int s = 0; s < 5; s++) {
            Due.is("KIND", x.setOf(s, 0), s + 1);
            Due.is("MACHINE", x.setOf(s, 1), s + 1);
            Due.is("WEIGHT", x.setOf(s, 2), 7);
            Due.is("MUSCLE", x.setOf(s, 3), s % 3);
            Due.is("LEFT", x.setOf(s, 4), 3);
            Due.is("TIRES of KIND " + (s + 1), x.setOf(s, 7), new int[] {3, 1, 1, 2, 3}[s]);
            Due.is("WILL without rules", x.setOf(s, 8), 0);
        }
        Due.is("setOf(5, 0)", x.setOf(5, 0), -1);
        Due.is("setOf(-1, 0)", x.setOf(-1, 0), -1);
        Due.is("setOf(0, -1)", x.setOf(0, -1), -1);
        Due.is("setOf(0, 9)", x.setOf(0, 9), -1);
        Due.is("setOf of wild numbers", x.setOf(Integer.MIN_VALUE, Integer.MAX_VALUE), -1);
    }

    // Promise 3, MAY: each KIND at a MACHINE taken in 0, 1, 4 and 5, in MINUTES 0 to 7 and 16.
    private static void mayByMinute() {
        int taken = 0b110011;
        String[] may = {"00110011" + "1", "01110111" + "1", "11111111" + "1", "00111011" + "1", "11001100" + "0"};
        for (int kind = 1; kind <= 5; kind++) {
            BenchTowels x = new BenchTowels();
            x.set(kind, 2, 5, 0);
            x.machine(2, 1, taken);
            x.change(0, 4, 0);
            x.ends(16);
            for (int t = 0; t <= 16; t++) {
                int at = t == 16 ? 8 : t;
                if (t < 8 || t == 16) Due.is("KIND " + kind + " may in " + t, x.setOf(0, 5), may[kind - 1].charAt(at) - '0');
                x.minute();
            }
        }
        BenchTowels x = new BenchTowels();
        x.set(1, 0, 5, 0);
        Due.is("alone may not in 0, though it is free", x.setOf(0, 5), 0);
        x.minute();
        Due.is("alone may in 1", x.setOf(0, 5), 1);
        x = new BenchTowels();
        x.set(4, 0, 5, 0);
        x.machine(0, 1, 0b1010);
        int[] held = {1, 1, 1, 1, 1};
        for (int t = 0; t < 5; t++) {
            Due.is("held, taken in 1 and 3, in " + t, x.setOf(0, 5), held[t]);
            x.change(0, 4, 0);
            x.minute();
        }
        x = new BenchTowels();
        x.set(4, 0, 5, 0);
        x.machine(0, 1, 0b111);
        Due.is("held in 0: there is none ahead", x.setOf(0, 5), 0);
        x.minute();
        Due.is("held in 1, taken in 0, too", x.setOf(0, 5), 0);
    }

    // Promise 3, GAINS
    private static void gainsByMinute() {
        BenchTowels x = Due.ofEachKind(7);
        for (int s = 0; s < 5; s++) x.change(s, 4, 0);
        int[] even = {9, 6, 9, 7, 14};
        int[] odd = {9, 6, 6, 7, 14};
        for (int t = 0; t < 4; t++) {
            for (int s = 0; s < 5; s++) {
                Due.is("GAINS of KIND " + (s + 1) + " in " + t, x.setOf(s, 6), t % 2 == 0 ? even[s] : odd[s]);
            }
            x.minute();
        }
        x.change(1, 2, 1);
        Due.is("GAINS of shared, WEIGHT 1", x.setOf(1, 6), 0);
    }

    // Promise 4
    private static void change() {
        BenchTowels x = Due.ofEachKind(7);
        Due.is("change MACHINE", x.change(2, 1, 0), 3);
        Due.is("change MACHINE", x.change(2, 1, 5), 0);
        Due.is("change WEIGHT", x.change(2, 2, 9), 7);
        Due.is("change WEIGHT", x.change(2, 2, 1), 9);
        Due.is("change MUSCLE", x.change(2, 3, 0), 2);
        Due.is("change LEFT", x.change(2, 4, 9), 3);
        Due.is("change LEFT", x.change(2, 4, 0), 9);
        Due.is("all", x.setOf(2, 1) * 1000 + x.setOf(2, 2) * 100 + x.setOf(2, 3) * 10 + x.setOf(2, 4), 5100);
        int[][] bad = {{5, 1, 0}, {-1, 1, 0}, {0, 0, 1}, {0, 5, 1}, {0, -1, 1}, {0, 1, -1}, {0, 1, 6}, {0, 2, 0}, {0, 2, 10},
            {0, 3, -1}, {0, 3, 3}, {0, 4, -1}, {0, 4, 10}, {0, Integer.MAX_VALUE, 1}};
        for (int[] b : bad) Due.is("wrong change", x.change(b[0], b[1], b[2]), -1);
        Due.is("nothing changed", x.setOf(0, 1) * 1000 + x.setOf(0, 2) * 100 + x.setOf(0, 3) * 10 + x.setOf(0, 4), 1703);
        Due.is("KIND neither", x.setOf(0, 0), 1);
    }

    // Promise 5
    private static void remake() {
        BenchTowels x = Due.ofEachKind(4);
        x.change(1, 4, 2);
        Due.is("remake(1, 5)", x.remake(1, 5), 2);
        Due.is("its KIND", x.setOf(1, 0), 5);
        Due.is("its GAINS", x.setOf(1, 6), 8);
        Due.is("what is LEFT stays", x.setOf(1, 4), 2);
        Due.is("its MACHINE stays", x.setOf(1, 1), 2);
        Due.is("remake(1, 1)", x.remake(1, 1), 5);
        Due.is("remake(1, 0)", x.remake(1, 0), -1);
        Due.is("remake(1, 6)", x.remake(1, 6), -1);
        Due.is("remake(5, 1)", x.remake(5, 1), -1);
        Due.is("remake(-1, 1)", x.remake(-1, 1), -1);
        Due.is("its KIND", x.setOf(1, 0), 1);
    }

    // Promises 6 and 7
    private static void machines() {
        BenchTowels x = new BenchTowels();
        for (int m = 0; m < 6; m++) {
            Due.is("machine(m, 0, m)", x.machine(m, 0, m + 4), 0);
            Due.is("machine(m, 1, 1 << m)", x.machine(m, 1, 1 << m), 0);
        }
        for (int m = 0; m < 6; m++) {
            Due.is("machineOf(m, 0)", x.machineOf(m, 0), m + 4);
            Due.is("machineOf(m, 1)", x.machineOf(m, 1), 1 << m);
        }
        Due.is("machine(5, 0, 0)", x.machine(5, 0, 0), 9);
        Due.is("machine(5, 1, 65535)", x.machine(5, 1, 65535), 32);
        Due.is("machine(5, 1, 0)", x.machine(5, 1, 0), 65535);
        int[][] bad = {{6, 0, 0}, {-1, 0, 0}, {0, 2, 0}, {0, -1, 0}, {0, 0, -1}, {0, 0, 10}, {0, 1, -1}, {0, 1, 65536}};
        for (int[] b : bad) Due.is("wrong machine", x.machine(b[0], b[1], b[2]), -1);
        Due.is("load as it was", x.machineOf(0, 0), 4);
        Due.is("taken as it was", x.machineOf(0, 1), 1);
        Due.is("machineOf(6, 0)", x.machineOf(6, 0), -1);
        Due.is("machineOf(-1, 0)", x.machineOf(-1, 0), -1);
        Due.is("machineOf(0, 2)", x.machineOf(0, 2), -1);
        Due.is("machineOf(0, -1)", x.machineOf(0, -1), -1);
    }

    // Promise 8
    private static void tire() {
        BenchTowels x = new BenchTowels();
        Due.is("tire(0, 9)", x.tire(0, 9), 0);
        Due.is("tire(2, 4)", x.tire(2, 4), 0);
        Due.is("tire(0, 1)", x.tire(0, 1), 9);
        Due.is("TIRED", x.state(5) * 100 + x.state(6) * 10 + x.state(7), 104);
        Due.is("tire(3, 0)", x.tire(3, 0), -1);
        Due.is("tire(-1, 0)", x.tire(-1, 0), -1);
        Due.is("tire(0, 10)", x.tire(0, 10), -1);
        Due.is("tire(0, -1)", x.tire(0, -1), -1);
        Due.is("TIRED", x.state(5), 1);
    }

    // Promise 9
    private static void ends() {
        BenchTowels x = new BenchTowels();
        Due.is("ends(16)", x.ends(16), 12);
        Due.is("ends(1)", x.ends(1), 16);
        Due.is("ends(0)", x.ends(0), -1);
        Due.is("ends(17)", x.ends(17), -1);
        x.ends(5);
        for (int i = 0; i < 3; i++) x.minute();
        Due.is("ends(2): below MINUTE", x.ends(2), -4);
        Due.is("ends(0): the first named", x.ends(0), -1);
        Due.is("END", x.state(1), 5);
        Due.is("ends(3): MINUTE", x.ends(3), 5);
        Due.is("it is OVER", x.state(3), 1);
    }

    // Promise 10
    private static void anew() {
        BenchTowels x = new BenchTowels();
        x.set(2, 1, 8, 1);
        x.set(3, 4, 2, 2);
        x.machine(1, 1, 256);
        x.machine(5, 0, 7);
        x.ends(4);
        x.tire(0, 9);
        x.change(1, 4, 7);
        x.seed(77);
        for (int i = 0; i < 4; i++) x.minute();
        Due.is("SCORE is more than 0", x.state(2) > 0 ? 1 : 0, 1);
        Due.is("anew()", x.anew(), 4);
        int[] state = {0, 4, 0, 0, 0, 0, 0, 0};
        for (int what = 0; what <= 7; what++) Due.is("anew: state(" + what + ")", x.state(what), state[what]);
        for (int m = 0; m < 6; m++) Due.is("anew: LOAD", x.machineOf(m, 0), 0);
        Due.is("anew: TAKEN stays", x.machineOf(1, 1), 256);
        Due.is("anew: LEFT", x.setOf(0, 4) * 10 + x.setOf(1, 4), 33);
        Due.is("anew: WEIGHT stays", x.setOf(0, 2), 8);
        Due.is("anew: z stays", x.seed(1), 77);
        Due.is("anew() again", x.anew(), 0);
        x = new BenchTowels();
        for (int i = 0; i < 6; i++) {
            x.set(4, i, 5, 0);
            x.change(i, 4, i % 2);
        }
        Due.is("six: none LEFT", x.state(4), 0b010101);
        x.anew();
        for (int i = 0; i < 6; i++) Due.is("six: LEFT", x.setOf(i, 4), 3);
        Due.is("six: none LEFT", x.state(4), 0);
    }

    // Promise 11
    private static void state() {
        BenchTowels x = new BenchTowels();
        x.set(2, 1, 8, 1);
        x.set(2, 2, 5, 2);
        x.ends(2);
        x.change(1, 4, 0);
        Due.is("none LEFT", x.state(4), 2);
        x.minute();
        int[] one = {1, 2, 5, 0, 2, 0, 1, 0};
        for (int what = 0; what <= 7; what++) Due.is("after one: state(" + what + ")", x.state(what), one[what]);
        x.change(0, 4, 1);
        x.minute();
        int[] two = {2, 2, 11, 1, 3, 0, 2, 0};
        for (int what = 0; what <= 7; what++) Due.is("after two: state(" + what + ")", x.state(what), two[what]);
        Due.is("state(8)", x.state(8), -1);
        Due.is("state(-1)", x.state(-1), -1);
    }
}
