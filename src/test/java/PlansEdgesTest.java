/** Promises 23 to 27, by the sentences of the document that name an edge. */
public final class PlansEdgesTest {
    public static void main(String[] args) {
        best();
        ith();
        firstOfThem();
        ways();
        train();
        bars();
        over();
        firstNamed();
        Due.end("PlansEdgesTest");
    }

    /** One held SET of WEIGHT 9, LOAD 9, MINUTES ahead of END as many as told (0 to 16). */
    private static BenchTowels one(int minutes) {
        BenchTowels x = new BenchTowels();
        x.ends(16);
        for (int t = 0; t < 16 - minutes; t++) x.minute();
        x.set(4, 0, 9, 0);
        x.machine(0, 0, 9);
        return x;
    }

    /** So many SETS, all alike, at MACHINES of their own. */
    private static BenchTowels alike(int many) {
        BenchTowels x = new BenchTowels();
        for (int s = 0; s < many; s++) x.set(4, s, 6, s % 3);
        return x;
    }

    private static void best() {
        Due.by(23, "WORTH of the BEST PLANS of n (0 to 4).");
        Edges.bounds("best(v)", Edges::busy, (x, v) -> x.best(v), 0, 4, -1);
        Edges.bounds("best(v) when it is OVER", Edges::over, (x, v) -> x.best(v), 0, 4, -1);
        Edges.bounds("best(v) without SETS", BenchTowels::new, (x, v) -> x.best(v), 0, 4, -1);
        Due.by(23, "A PLAN of n: n MINUTES (fewer, if it is OVER)");
        // 9; 9 + 7; 9 + 7 + 5; and with a MINUTE of rest 9 + 8 + 6.
        int[] due = {0, 9, 16, 21, 23};
        for (int n = 0; n <= 4; n++) {
            int asked = n;
            for (int minutes : new int[] {0, 1, 2, 3, 4, 5, 16}) {
                Edges.still("best(" + n + ") in " + minutes + " MINUTES", () -> one(minutes), x -> x.best(asked), due[Math.min(n, minutes)]);
            }
            Due.is("best(" + n + ") without SETS", new BenchTowels().best(n), 0);
        }
    }

    private static void ith() {
        Due.by(24, "The i-th (0 to 3) ACT of the FIRST of them.");
        Edges.bounds("ith(v, 0)", Edges::busy, (x, v) -> x.ith(v, 0), 0, 4, -1);
        Edges.bounds("ith(4, v)", Edges::busy, (x, v) -> x.ith(4, v), 0, 3, -1);
        Edges.bounds("ith(0, v)", Edges::busy, (x, v) -> x.ith(0, v), 0, 3, -1);
        Due.by(24, "NONE: it has not so many.");
        int[][] due = {{}, {1}, {1, 1}, {1, 1, 1}, {1, 0, 1, 1}};
        for (int n = 0; n <= 4; n++) {
            for (int minutes : new int[] {0, 1, 2, 3, 4, 5}) {
                int[] acts = due[Math.min(n, minutes)];
                for (int i = 0; i <= 3; i++) {
                    Due.is("ith(" + n + ", " + i + ") in " + minutes + " MINUTES", one(minutes).ith(n, i), i < acts.length ? acts[i] : -3);
                }
            }
        }
    }

    private static void firstOfThem() {
        Due.by(24, "the FIRST of these is that with the lesser ACT where they are unlike first");
        BenchTowels x = new BenchTowels();
        for (int n = 1; n <= 4; n++) {
            for (int i = 0; i < n; i++) Due.is("ith(" + n + ", " + i + ") without SETS", x.ith(n, i), 0);
        }
        x = alike(6);
        for (int s = 0; s < 6; s++) x.change(s, 4, 0);
        for (int i = 0; i <= 3; i++) Due.is("ith(4, " + i + ") when none is LEFT", x.ith(4, i), 0);
        x = alike(6);
        Due.is("ith(1, 0) of six alike", x.ith(1, 0), 1);
        Due.by(24, "0 none is told, or 1 more than the number of the SET that is");
        for (int s = 5; s >= 0; s--) {
            x = alike(6);
            for (int i = 0; i < 6; i++) x.change(i, 4, i == s ? 1 : 0);
            Due.is("ith(1, 0) when just " + s + " is LEFT", x.ith(1, 0), s + 1);
            // 6 - 2 once, in any of four MINUTES: the last has the lesser ACTS ahead.
            for (int i = 0; i <= 3; i++) Due.is("ith(4, " + i + ") when just " + s + " is LEFT", x.ith(4, i), i == 3 ? s + 1 : 0);
        }
    }

    private static void ways() {
        Due.by(25, "How many of them there are.");
        Edges.bounds("ways(v)", Edges::busy, (x, v) -> x.ways(v), 0, 4, -1);
        for (int many = 0; many <= 6; many++) {
            BenchTowels x = alike(many);
            for (int s = 0; s < many; s++) x.change(s, 4, 0);
            int due = 1;
            for (int n = 0; n <= 4; n++) {
                Due.is("ways(" + n + ") of " + many + " SETS of which none is LEFT", x.ways(n), due);
                due *= many + 1;
            }
            x = alike(many);
            Due.is("ways(0) of " + many, x.ways(0), 1);
            Due.is("ways(1) of " + many + " alike", x.ways(1), Math.max(1, many));
        }
        for (int n = 0; n <= 4; n++) Due.is("ways(" + n + ") of one", one(4).ways(n), 1);
        // 1 1 0 in three MINUTES is 9 + 7, 1 0 1 and 0 1 1 likewise, 9 + 8: just 1 0 1 is best.
        BenchTowels x = one(3);
        x.change(0, 4, 2);
        Due.is("best(3), two LEFT", x.best(3), 17);
        Due.is("ways(3), two LEFT", x.ways(3), 1);
        // In the third MINUTE of 1 0 1 any ACT is as good, when one is LEFT.
        x.change(0, 4, 1);
        // 1 0 0, 1 0 1, 1 1 0, 1 1 1, 0 1 0, 0 1 1, 0 0 1.
        Due.is("ways(3), one LEFT", x.ways(3), 7);
    }

    private static void train() {
        Due.by(26, "TRAIN by n (0 to 4), a set of SETS (of such as there are).");
        Edges.bounds("train(v, 0)", Edges::busy, (x, v) -> x.train(v, 0), 0, 4, -1);
        for (int many = 0; many <= 6; many++) {
            int n = many;
            Edges.bounds("train(2, v) of " + n + " SETS", () -> alike(n), (x, v) -> x.train(2, v), 0, (1 << n) - 1, -1);
            for (int bit = 0; bit < 32; bit++) {
                int set = bit;
                Edges.still("train(1, 1 << " + bit + ") of " + n, () -> alike(n), x -> x.train(1, 1 << set), bit < n ? 1 : -1);
            }
        }
        Due.by(26, "the fewest ACTS that aren't 0 in a PLAN of n in which each of them is done");
        for (int n = 0; n <= 4; n++) {
            for (int some = 0; some <= 6; some++) {
                int sets = (1 << some) - 1;
                int due = some <= n ? some : -3;
                Due.is("train(" + n + ", the first " + some + ")", alike(6).train(n, sets), due);
                Due.is("train(" + n + ", the last " + some + ")", alike(6).train(n, sets << 6 - some), due);
            }
        }
        BenchTowels x = alike(2);
        // The second is done just by a MUSCLE that is TIRED 2: 1 more ACT, of the first.
        x.change(1, 3, 0);
        Due.rules(x, "set if number = 1 and tired < 2 wait;");
        Due.is("train(2, 2) by an ACT of another", x.train(2, 2), 2);
        Due.is("train(1, 2) by an ACT of another", x.train(1, 2), -3);
        Due.is("train(2, 3)", x.train(2, 3), 2);
        x.change(0, 4, 0);
        Due.is("train(4, 1) when none is LEFT", x.train(4, 1), -3);
        x.change(0, 4, 1);
        Due.is("train(4, 1) when 1 is LEFT", x.train(4, 1), 1);
    }

    private static void bars() {
        Due.by(27, "BAR likewise. BAD; NONE: each is done in some.");
        Edges.bounds("bars(v, 1)", Edges::busy, (x, v) -> x.bars(v, 1), 0, 4, -1);
        for (int many = 0; many <= 6; many++) {
            int n = many;
            Edges.bounds("bars(2, v) of " + n + " SETS", () -> alike(n), (x, v) -> x.bars(2, v), 0, (1 << n) - 1, -1);
            for (int bit = 0; bit < 32; bit++) {
                int set = bit;
                Edges.still("bars(0, 1 << " + bit + ") of " + n, () -> alike(n), x -> x.bars(0, 1 << set), bit < n ? bit : -1);
            }
        }
        Due.by(27, "BAR: the least of them that is done in no PLAN of n.");
        Due.is("bars(1, 63), each in a PLAN of its own", alike(6).bars(1, 63), -3);
        Due.is("bars(0, 0)", alike(6).bars(0, 0), -3);
        for (int s = 0; s < 6; s++) {
            BenchTowels x = alike(6);
            x.change(s, 4, 0);
            Due.is("bars(4, 63) when none is LEFT of " + s, x.bars(4, 63), s);
            Due.is("bars(4, all but that)", x.bars(4, 63 ^ 1 << s), -3);
            for (int i = s; i < 6; i++) x.change(i, 4, 0);
            Due.is("bars(4, 63) when none is LEFT from " + s + " on", x.bars(4, 63), s);
            Due.is("bars(0, from " + s + " on)", alike(6).bars(0, 63 ^ (1 << s) - 1), s);
        }
        for (int n = 1; n <= 4; n++) {
            BenchTowels x = new BenchTowels();
            x.set(5, 0, 5, 0);
            x.machine(0, 1, 1 << n - 1);
            Due.is("bars(" + n + ", 1), it MAY in the last MINUTE", x.bars(n, 1), -3);
            x.machine(0, 1, 1 << n);
            Due.is("bars(" + n + ", 1), it MAY a MINUTE later", x.bars(n, 1), 0);
        }
    }

    private static void over() {
        Due.by(26, "from END on it is OVER");
        Edges.still("ways(4) when it is OVER", Edges::over, x -> x.ways(4), 1);
        Edges.still("ith(4, 0) when it is OVER", Edges::over, x -> x.ith(4, 0), -3);
        Edges.still("train(4, 0) when it is OVER", Edges::over, x -> x.train(4, 0), 0);
        Edges.still("train(4, 2) when it is OVER", Edges::over, x -> x.train(4, 2), -3);
        Edges.still("bars(4, 0) when it is OVER", Edges::over, x -> x.bars(4, 0), -3);
        Edges.still("bars(4, 18) when it is OVER", Edges::over, x -> x.bars(4, 18), 1);
        for (int minutes = 0; minutes <= 4; minutes++) {
            BenchTowels x = alike(6);
            x.ends(Math.max(1, minutes));
            if (minutes == 0) x.minute();
            for (int i = 0; i < 6; i++) x.change(i, 4, 3);
            Due.is("train(4, as many SETS as MINUTES), " + minutes, x.train(4, (1 << minutes) - 1), minutes);
            Due.is("train(4, one more), " + minutes, x.train(4, (2 << minutes) - 1), -3);
            Due.is("bars(4, 32) in so many MINUTES, " + minutes, x.bars(4, 32), minutes > 0 ? -3 : 5);
        }
    }

    private static void firstNamed() {
        Due.by(24, "of several the first named");
        Edges.still("ith(0, 4)", Edges::busy, x -> x.ith(0, 4), -1);
        Edges.still("ith(0, -1)", Edges::busy, x -> x.ith(0, -1), -1);
        Edges.still("ith(5, 3)", Edges::over, x -> x.ith(5, 3), -1);
        Edges.still("ith(4, 4) when it is OVER", Edges::over, x -> x.ith(4, 4), -1);
        Due.by(26, "of several the first named");
        Edges.still("train(0, 32)", Edges::busy, x -> x.train(0, 32), -1);
        Edges.still("train(5, 1) when it is OVER", Edges::over, x -> x.train(5, 1), -1);
        Edges.still("train(4, 32) when it is OVER", Edges::over, x -> x.train(4, 32), -1);
        Due.by(27, "of several the first named");
        Edges.still("bars(5, 0)", Edges::busy, x -> x.bars(5, 0), -1);
        Edges.still("bars(-1, 0)", Edges::busy, x -> x.bars(-1, 0), -1);
        Edges.still("bars(0, 32)", Edges::over, x -> x.bars(0, 32), -1);
    }
}
