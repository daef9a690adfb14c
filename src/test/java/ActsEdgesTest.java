/** Promises 48 to 50, by the sentences of the document that name an edge. */
public final class ActsEdgesTest {
    private static final int[] NUMBERS = {0, 1, -1, 7, -7, 100, Edges.MIN, Edges.MIN + 1, Edges.MAX, Edges.MAX - 1, 1 << 30};

    public static void main(String[] args) {
        none();
        lifts();
        groans();
        parts();
        wipes();
        partedByNothing();
        byItsNumber();
        trace();
        many();
        Due.end("ActsEdgesTest");
    }

    private static void none() {
        Due.by(48, "0, and no TRACE then: no such SHELF, act, nothing, a row.");
        int[][] wrong = {{-1, 0}, {4, 0}, {Edges.MIN, 0}, {Edges.MAX, 0}, {0, -1}, {0, 4}, {0, Edges.MIN}, {0, Edges.MAX},
            {1, 0}, {1, 3}, {2, 0}, {2, 3}, {4, 4}};
        for (int[] w : wrong) {
            BenchTowels x = Edges.busy();
            Due.is("many(6) ahead", x.many(6), 8);
            Due.is("act(" + w[0] + ", " + w[1] + ", 9)", x.act(w[0], w[1], 9), 0);
            Due.is("many(6)", x.many(6), 0);
            Due.is("trace(0)", x.trace(0), -3);
        }
        BenchTowels x = Edges.busy();
        for (int act = 0; act <= 3; act++) {
            x.act(0, act, 9);
            Due.is("whether there is a TRACE of act(0, " + act + ", 9)", x.many(6) > 0 ? 1 : 0, 1);
            x.act(3, act, 9);
            Due.is("whether there is a TRACE of act(3, " + act + ", 9)", x.many(6) > 0 ? 1 : 0, 1);
        }
        Due.is("act() without SETS", new BenchTowels().act(0, 0, 9), 0);
    }

    /** A SET of a KIND, its number told, with its WEIGHT, on SHELF 2. */
    private static BenchTowels thing(int kind, int number, int weight) {
        BenchTowels x = new BenchTowels();
        for (int s = 0; s <= number; s++) x.set(s == number ? kind : kind % 5 + 1, 0, s == number ? weight : 5, 0);
        x.shelf(2, 0, number);
        return x;
    }

    private static final int[][] LIFTS = {{20, 10}, {10}, {50, 10}, {10}, {10}};
    private static final int[][] GROANS = {{11, 20, 10}, {30, 11, 10}, {30, 11, 50, 10}, {11, 10}, {60, 11, 10}};
    private static final int[][] PARTS = {{12}, {12}, {12}, {40, 12}, {61, 40, 12, 10}};

    private static int lifted(int kind, int n, int a, int x) {
        int plain = x + a * 2;
        return kind == 1 ? 0 - plain : kind == 3 ? plain + n : plain;
    }

    private static int groaned(int kind, int n, int a, int x) {
        if (kind == 5) return lifted(kind, n, a, x + 4) ^ n;
        int plain = lifted(kind, n, a, x) ^ n;
        return kind == 2 || kind == 3 ? plain * 3 : plain;
    }

    private static int parted(int kind, int n, int a, int x) {
        // By longs: the lowest of all ints by -1 is itself, as it wraps.
        int plain = (int) ((long) x / (a - n));
        return kind == 4 ? plain ^ a : kind == 5 ? (plain ^ a) * (1 + a * 2) : plain;
    }

    private static void traced(BenchTowels x, int[]... rows) {
        int i = 0;
        for (int[] row : rows) {
            for (int body : row) {
                Due.is("trace(" + i + ")", x.trace(i), body);
                i++;
            }
        }
        Due.is("trace(" + i + ")", x.trace(i), -3);
        Due.is("many(6)", x.many(6), i);
    }

    private static void lifts() {
        Due.by(48, "10 lifts: x + a * 2.");
        for (int kind = 1; kind <= 5; kind++) {
            for (int n : new int[] {0, 5}) {
                for (int a : new int[] {1, 9}) {
                    BenchTowels x = thing(kind, n, a);
                    for (int by : NUMBERS) {
                        Due.is("lifts(" + by + ") of KIND " + kind + ", n " + n + ", a " + a, x.act(2, 0, by), lifted(kind, n, a, by));
                        traced(x, LIFTS[kind - 1]);
                    }
                }
            }
        }
    }

    private static void groans() {
        Due.by(48, "11 groans: lifts(x) ^ n.");
        for (int kind = 1; kind <= 5; kind++) {
            for (int n : new int[] {0, 5}) {
                for (int a : new int[] {1, 9}) {
                    BenchTowels x = thing(kind, n, a);
                    for (int by : NUMBERS) {
                        Due.is("groans(" + by + ") of KIND " + kind + ", n " + n + ", a " + a, x.act(2, 1, by), groaned(kind, n, a, by));
                        traced(x, GROANS[kind - 1]);
                    }
                }
            }
        }
    }

    private static void parts() {
        Due.by(48, "12 parts: x by (a - n), the rest away");
        for (int kind = 1; kind <= 5; kind++) {
            for (int n : new int[] {0, 2, 4, 5}) {
                for (int a : new int[] {1, 3, 9}) {
                    BenchTowels x = thing(kind, n, a);
                    for (int by : NUMBERS) {
                        Due.is("parts(" + by + ") of KIND " + kind + ", n " + n + ", a " + a, x.act(2, 2, by), parted(kind, n, a, by));
                        traced(x, PARTS[kind - 1]);
                    }
                }
            }
        }
    }

    private static void wipes() {
        Due.by(48, "13 wipes: groans(x) - parts(x).");
        for (int kind = 1; kind <= 5; kind++) {
            for (int n : new int[] {0, 2, 5}) {
                for (int a : new int[] {1, 9}) {
                    BenchTowels x = thing(kind, n, a);
                    for (int by : NUMBERS) {
                        int plain = groaned(kind, n, a, by) - parted(kind, n, a, by);
                        int due = kind == 3 ? plain ^ groaned(kind, n, a, n) : plain;
                        Due.is("wipes(" + by + ") of KIND " + kind + ", n " + n + ", a " + a, x.act(2, 3, by), due);
                        if (kind == 3) traced(x, new int[] {51, 13}, GROANS[2], PARTS[2], GROANS[2]);
                        else traced(x, new int[] {13}, GROANS[kind - 1], PARTS[kind - 1]);
                    }
                }
            }
        }
    }

    private static void partedByNothing() {
        Due.by(48, "(-15 if these are the same; that is all that act() answers then)");
        int[][] parts = {{12}, {12}, {12}, {40, 12}, {61, 40, 12}};
        for (int kind = 1; kind <= 5; kind++) {
            for (int n = 1; n <= 5; n++) {
                BenchTowels x = thing(kind, n, n);
                for (int by : new int[] {0, 1, Edges.MIN, Edges.MAX}) {
                    Due.is("parts(" + by + ") of KIND " + kind + ", n and a " + n, x.act(2, 2, by), -15);
                    traced(x, parts[kind - 1]);
                    Due.is("wipes(" + by + ") of KIND " + kind + ", n and a " + n, x.act(2, 3, by), -15);
                    traced(x, kind == 3 ? new int[] {51, 13} : new int[] {13}, GROANS[kind - 1], parts[kind - 1]);
                }
                Due.is("lifts(9) then", x.act(2, 0, 9), lifted(kind, n, n, 9));
                Due.is("groans(9) then", x.act(2, 1, 9), groaned(kind, n, n, 9));
                x.change(n, 2, n + 1);
                Due.is("parts(9) when a is 1 more", x.act(2, 2, 9), parted(kind, n, n + 1, 9));
            }
        }
    }

    private static void byItsNumber() {
        Due.by(48, "A SET is held as a thing of its KIND; n: its number, a: its WEIGHT.");
        BenchTowels x = thing(1, 3, 4);
        Due.is("act(2, 0, 5) of KIND 1", x.act(2, 0, 5), -13);
        x.remake(3, 3);
        Due.is("act(2, 0, 5) of KIND 3 now", x.act(2, 0, 5), 16);
        x.change(3, 2, 9);
        Due.is("act(2, 0, 5) of WEIGHT 9 now", x.act(2, 0, 5), 26);
        Edges.still("act() of the same, once more", Edges::busy, y -> y.act(0, 3, 10), Edges.busy().act(0, 3, 10));
    }

    private static void trace() {
        Due.by(49, "THE TRACE's i-th body. NONE.");
        Edges.bounds("trace(v)", Edges::busy, (x, v) -> x.trace(v), 0, 7, -3);
        for (int v : new int[] {-1, 0, 1, 29, 30, Edges.MIN, Edges.MAX}) {
            Edges.still("trace(" + v + ") ahead of all", BenchTowels::new, x -> x.trace(v), -3);
        }
        Due.by(49, "numbers of the bodies that ran in the latest act(), as they began (left first)");
        BenchTowels x = thing(3, 0, 9);
        x.act(2, 3, 5);
        traced(x, new int[] {51, 13, 30, 11, 50, 10, 12, 30, 11, 50, 10});
        x.act(2, 0, 5);
        traced(x, new int[] {50, 10});
        x.act(2, 3, 5);
        x.act(2, 2, 5);
        traced(x, new int[] {12});
    }

    private static void many() {
        Due.by(50, "BAD: another what.");
        Edges.bounds("many(v)", Edges::busy, (x, v) -> x.many(v), 0, 6, -1);
        Edges.bounds("many(v) of a new one", BenchTowels::new, (x, v) -> x.many(v), 0, 6, -1);
        Due.by(50, "How many: what = 0 SETS, 1 RULES, 2 those of which none is LEFT, 3 REPORTS, 4 ROWS, 5 bytes of THE TAPE, 6 bodies of THE TRACE");
        int[] busy = {5, 2, 1, 3, 3, 10, 8};
        int[] full = {6, 8, 0, 6, 0, 200, 0};
        for (int what = 0; what <= 6; what++) {
            int asked = what;
            Edges.still("many(" + what + ")", Edges::busy, x -> x.many(asked), busy[what]);
            Edges.still("many(" + what + ") of a full one", Edges::full, x -> x.many(asked), full[what]);
            Edges.still("many(" + what + ") of a new one", BenchTowels::new, x -> x.many(asked), 0);
        }
        BenchTowels x = Edges.full();
        for (int s = 0; s <= 5; s++) {
            x.change(s, 4, 0);
            Due.is("many(2) when none is LEFT of " + (s + 1), x.many(2), s + 1);
        }
        x.change(0, 4, 1);
        Due.is("many(2) when 1 is LEFT of one", x.many(2), 5);
        Due.is("prove(4)", x.prove(4), 4);
        Due.is("many(4)", x.many(4), 4);
    }
}
