/** Promises 28 to 36, by the sentences of the document that name an edge. */
public final class GameEdgesTest {
    public static void main(String[] args) {
        game();
        gameOfMore();
        gameOver();
        play();
        report();
        reportFull();
        forget();
        span();
        men();
        liar();
        seed();
        lot();
        lotOver();
        times();
        timesOrMore();
        Due.end("GameEdgesTest");
    }

    /** One held SET of WEIGHT 9, LOAD 9, MINUTES ahead of END as many as told (0 to 16). */
    private static BenchTowels one(int minutes) {
        BenchTowels x = new BenchTowels();
        x.ends(16);
        for (int t = 0; t < 16 - minutes; t++) x.minute();
        x.set(4, 0, 9, 0);
        x.machine(0, 0, 9);
        return x;
    }

    private static void game() {
        Due.by(28, "VALUE of a GAME of n (1 to 4).");
        Edges.bounds("game(v)", Edges::busy, (x, v) -> x.game(v), 1, 4, -1);
        Edges.bounds("game(v) when it is OVER", Edges::over, (x, v) -> x.game(v), 1, 4, -1);
        Edges.bounds("game(v) without SETS", BenchTowels::new, (x, v) -> x.game(v), 1, 4, -1);
        Due.by(28, "each an ACT (also 0); the first one wants as much WORTH as can be, the other one as little");
        // 9, then the other one tells none, then 8 (TIRED 1), then the other one tells none.
        int[] due = {0, 9, 9, 17, 17};
        for (int n = 1; n <= 4; n++) {
            int asked = n;
            Edges.still("game(" + n + ")", () -> one(16), x -> x.game(asked), due[n]);
            Due.is("game(" + n + ") without SETS", new BenchTowels().game(n), 0);
        }
    }

    private static void gameOfMore() {
        Due.by(28, "VALUE: that, if both play as well as they can.");
        BenchTowels x = new BenchTowels();
        x.set(4, 0, 9, 0);
        x.set(2, 1, 9, 1);
        x.set(4, 0, 2, 0);
        // In three MINUTES: 1 is 6, then 3 is 0 and leaves LOAD 2, TIRED 4, then 2 is 5; but 2 is 5, then 0, then 2 is 8.
        int[] value = {0, 6, 6, 13};
        int[] act = {0, 1, 1, 2};
        for (int n = 1; n <= 3; n++) {
            Due.is("game(" + n + ")", x.game(n), value[n]);
            Due.is("play(" + n + ")", x.play(n), act[n]);
        }
        for (int n = 1; n <= 4; n++) {
            for (int tired = 0; tired <= 9; tired += 3) {
                BenchTowels y = two(tired);
                int due = value(tired, new int[0], n);
                Due.is("game(" + n + ") of two, TIRED " + tired, y.game(n), due);
                int least = 0;
                while (value(tired, new int[] {least}, n) != due) least++;
                Due.is("play(" + n + ") of two, TIRED " + tired, y.play(n), least);
            }
        }
    }

    private static BenchTowels two(int tired) {
        BenchTowels x = new BenchTowels();
        x.set(3, 0, 9, 0);
        x.set(1, 0, 5, 0);
        x.change(0, 4, 1);
        x.tire(0, tired);
        return x;
    }

    /** What both come to behind told ACTS, by trying all to the end. */
    private static int value(int tired, int[] acts, int n) {
        if (acts.length == n) {
            BenchTowels x = two(tired);
            x.sheet(0, 0, n);
            for (int i = 0; i < n; i++) x.write(0, i, acts[i]);
            return x.wouldBe(0, 0, n);
        }
        int best = -1;
        for (int act = 0; act <= 2; act++) {
            int[] more = java.util.Arrays.copyOf(acts, acts.length + 1);
            more[acts.length] = act;
            int worth = value(tired, more, n);
            if (act == 0) best = worth;
            best = acts.length % 2 == 0 ? Math.max(best, worth) : Math.min(best, worth);
        }
        return best;
    }

    private static void gameOver() {
        Due.by(28, "two in turn, ahead of n MINUTES (till it is OVER) each an ACT");
        int[] due = {0, 9, 9, 17, 17};
        for (int minutes = 0; minutes <= 4; minutes++) {
            int ahead = minutes;
            for (int n = 1; n <= 4; n++) {
                int asked = n;
                Edges.still("game(" + n + ") in " + minutes + " MINUTES", () -> one(ahead), x -> x.game(asked), due[Math.min(n, minutes)]);
                Edges.still("play(" + n + ") in " + minutes + " MINUTES", () -> one(ahead), x -> x.play(asked), minutes > 0 ? 1 : -3);
            }
        }
    }

    private static void play() {
        Due.by(29, "BAD; NONE: it is OVER.");
        Edges.bounds("play(v)", Edges::busy, (x, v) -> x.play(v), 1, 4, -1);
        Edges.bounds("play(v) when it is OVER", Edges::over, (x, v) -> x.play(v), 1, 4, -1);
        for (int n = 1; n <= 4; n++) {
            int asked = n;
            Edges.still("play(" + n + ") when it is OVER", Edges::over, x -> x.play(asked), -3);
            Edges.still("play(" + n + ") without SETS", BenchTowels::new, x -> x.play(asked), 0);
        }
        Due.by(29, "The least ACT by which who begins comes to it.");
        for (int s = 0; s <= 5; s++) {
            BenchTowels x = new BenchTowels();
            for (int i = 0; i <= 5; i++) {
                x.set(4, i, 6, i % 3);
                x.change(i, 4, i < s ? 0 : 3);
            }
            Due.is("play(1) when none is LEFT of those below " + s, x.play(1), s + 1);
            Due.is("game(1)", x.game(1), 4);
            for (int i = 0; i <= 5; i++) x.change(i, 4, i == s ? 1 : 0);
            Due.is("play(1) when just " + s + " is LEFT", x.play(1), s + 1);
            x.change(s, 4, 0);
            for (int n = 1; n <= 4; n++) Due.is("play(" + n + ") when none is LEFT", x.play(n), 0);
        }
        // One LEFT, in 0 as in 2: the other one can't take it away, so none at first comes to the same.
        BenchTowels x = one(4);
        x.change(0, 4, 1);
        Due.is("play(2), one LEFT: now", x.play(2), 1);
        Due.is("play(3), one LEFT: later is as good", x.play(3), 0);
        Due.is("game(3), one LEFT", x.game(3), 9);
    }

    private static void report() {
        Due.by(30, "behind MINUTE k (0 to 15)");
        Edges.bounds("report(v, 1, 3)", Edges::busy, (x, v) -> x.report(v, 1, 3), 0, 15, -1);
        Due.by(30, "from LEAST to MOST times (0 to 4)");
        Edges.bounds("report(3, v, 4)", Edges::busy, (x, v) -> x.report(3, v, 4), 0, 4, -1);
        Edges.bounds("report(3, 0, v)", Edges::busy, (x, v) -> x.report(3, 0, v), 0, 4, -1);
        Due.by(30, "BAD: also MOST below LEAST");
        for (int least = 0; least <= 4; least++) {
            for (int most = 0; most <= 4; most++) {
                int a = least;
                int b = most;
                if (most < least) Edges.still("report(3, " + a + ", " + b + ")", Edges::busy, x -> x.report(3, a, b), -1);
                else Due.is("report(3, " + a + ", " + b + ")", Edges.busy().report(3, a, b), 3);
            }
        }
        Edges.still("report(3, MAX, MIN)", Edges::busy, x -> x.report(3, Edges.MAX, Edges.MIN), -1);
        Edges.still("report(3, -2, -1)", Edges::busy, x -> x.report(3, -2, -1), -1);
        Edges.still("report(3, 5, 6)", Edges::busy, x -> x.report(3, 5, 6), -1);
    }

    private static void reportFull() {
        Due.by(30, "A REPORT (6 at most)");
        BenchTowels x = new BenchTowels();
        for (int i = 0; i <= 5; i++) {
            Due.is("many(3)", x.many(3), i);
            Due.is("report() for the " + i + "th", x.report(15, 0, 4), i);
        }
        Due.is("report() for a seventh", x.report(15, 0, 4), -2);
        Edges.still("report() for a seventh", Edges::full, y -> y.report(15, 4, 4), -2);
        Due.by(30, "of several the first named");
        Edges.still("a seventh, MINUTE -1", Edges::full, y -> y.report(-1, 0, 4), -1);
        Edges.still("a seventh, MINUTE 16", Edges::full, y -> y.report(16, 0, 4), -1);
        Edges.still("a seventh, LEAST -1", Edges::full, y -> y.report(0, -1, 4), -1);
        Edges.still("a seventh, MOST 5", Edges::full, y -> y.report(0, 0, 5), -1);
        Edges.still("a seventh, MOST below LEAST", Edges::full, y -> y.report(0, 1, 0), -1);
    }

    private static void forget() {
        Due.by(31, "There are no REPORTS: how many there were.");
        Edges.still("forget() of none", BenchTowels::new, x -> x.forget(), 0);
        for (int many = 0; many <= 6; many++) {
            BenchTowels x = new BenchTowels();
            for (int i = 0; i < many; i++) x.report(0, 4, 4);
            Due.is("forget() of " + many, x.forget(), many);
            Due.is("many(3) then", x.many(3), 0);
            Due.is("span(0) then", x.span(0), 256);
            Due.is("liar() then", x.liar(), -3);
            Due.is("forget() once more", x.forget(), 0);
            Due.is("report() then", x.report(15, 1, 4), 0);
            Due.is("span(0) by it alone", x.span(0), 256);
        }
    }

    private static BenchTowels reported(int[]... reports) {
        BenchTowels x = new BenchTowels();
        for (int[] r : reports) x.report(r[0], r[1], r[2]);
        return x;
    }

    private static void spans(String what, BenchTowels x, int... due) {
        for (int i = 0; i <= 3; i++) Due.is("span(" + i + ") " + what, x.span(i), due[i]);
    }

    private static void span() {
        Due.by(32, "MEN that FIT: what = 0 how many");
        Edges.bounds("span(v)", Edges::busy, (x, v) -> x.span(v), 0, 3, -1);
        Edges.bounds("span(v) when none FITS", () -> reported(new int[] {0, 4, 4}), (x, v) -> x.span(v), 0, 3, -1);
        Due.by(32, "NONE (of 1 to 3): there are none.");
        for (int what = 0; what <= 3; what++) {
            int asked = what;
            Edges.still("span(" + what + ") when none FITS", () -> reported(new int[] {0, 4, 4}), x -> x.span(asked), what == 0 ? 0 : -3);
        }
        spans("when all FIT", new BenchTowels(), 256, 0, 1, 1);
        Due.by(32, "of that with the least START, of these the least PAUSE, of these the fewest TIMES: 1 START, 2 PAUSE, 3 TIMES.");
        // START 0 with PAUSE 4 (0, 4) goes ahead of START 3 with PAUSE 1 (3, 4).
        BenchTowels x = reported(new int[] {3, 1, 1}, new int[] {4, 2, 2});
        Due.is("span(1), the least START", x.span(1), 0);
        Due.is("span(2), its PAUSE", x.span(2), 4);
        Due.is("span(3), its TIMES", x.span(3), 2);
        // PAUSE 1 with TIMES 4 (0, 1, 2, 3) goes ahead of PAUSE 2 with TIMES 2 and more; both are twice behind 3 or more.
        x = reported(new int[] {0, 1, 1}, new int[] {6, 3, 4}, new int[] {5, 3, 4});
        Due.is("span(2), the least PAUSE", x.span(2), 1);
        Due.is("span(3), the fewest TIMES", x.span(3), 3);
    }

    private static void men() {
        Due.by(32, "had sat there from LEAST to MOST times (0 to 4) behind MINUTE k (0 to 15)");
        for (int k = 0; k <= 15; k++) {
            Due.is("span(0) by report(" + k + ", 1, 4)", reported(new int[] {k, 1, 4}).span(0), 16 * (k + 1));
            Due.is("span(0) by report(" + k + ", 0, 0)", reported(new int[] {k, 0, 0}).span(0), 16 * (15 - k));
            Due.is("span(0) by report(" + k + ", 0, 4)", reported(new int[] {k, 0, 4}).span(0), 256);
        }
        // START 0, PAUSE 1, TIMES 2 to 4: how often by MINUTE 15.
        int[] start = {0, 1, 1};
        int[] pause = {1, 2, 2};
        for (int least = 0; least <= 4; least++) {
            for (int most = least; most <= 4; most++) {
                int due = Math.max(0, Math.min(most, 4) - Math.max(least, 2) + 1);
                BenchTowels x = reported(start, pause, new int[] {15, least, most});
                Due.is("span(0) by report(15, " + least + ", " + most + ")", x.span(0), due);
                if (due > 0) Due.is("span(3)", x.span(3), Math.max(least, 2));
            }
        }
        Due.by(32, "A MAN: he sits in a MINUTE (START, 0 to 15), and each PAUSE (1 to 4) MINUTES on again, TIMES (1 to 4) in all.");
        for (int p = 1; p <= 4; p++) {
            for (int s = 0; s <= 3; s++) {
                // Once behind START, the second time PAUSE later; four times in all, the last 3 PAUSES later.
                BenchTowels x = reported(new int[] {s, 1, 1}, new int[] {s + p, 2, 2}, new int[] {s + 3 * p - 1, 3, 3}, new int[] {s + 3 * p, 4, 4});
                if (s > 0) x.report(s - 1, 0, 0);
                if (p > 1) x.report(s + p - 1, 1, 1);
                spans("of START " + s + ", PAUSE " + p + ", TIMES 4", x, 1, s, p, 4);
            }
        }
        for (int n = 1; n <= 4; n++) {
            spans("of START 0, PAUSE 1, TIMES " + n, reported(start, new int[] {1, Math.min(n, 2), Math.min(n, 2)}, new int[] {15, n, n}),
                n == 1 ? 4 : 1, 0, 1, n);
        }
        spans("of START 15", reported(new int[] {14, 0, 0}), 16, 15, 1, 1);
        spans("of START 15, seen in it", reported(new int[] {14, 0, 0}, new int[] {15, 1, 1}), 16, 15, 1, 1);
        spans("of none: once he had sat there behind 15", reported(new int[] {15, 0, 0}), 0, -3, -3, -3);
        spans("of none: twice behind START", reported(new int[] {14, 0, 0}, new int[] {15, 2, 4}), 0, -3, -3, -3);
    }

    private static void liar() {
        Due.by(33, "NONE: some FIT; or there is no such REPORT.");
        Edges.still("liar() without REPORTS", BenchTowels::new, x -> x.liar(), -3);
        Edges.still("liar() when some FIT", Edges::full, x -> x.liar(), -3);
        Edges.still("liar() when just one FITS", () -> reported(new int[] {0, 1, 1}, new int[] {12, 4, 4}, new int[] {11, 3, 3},
            new int[] {3, 1, 1}), x -> x.liar(), -3);
        Edges.still("liar() when none FITS but for any", () -> reported(new int[] {0, 2, 2}, new int[] {0, 3, 3}), x -> x.liar(), -3);
        Due.by(33, "LIAR: if none FITS, the least REPORT but for which some would.");
        Edges.still("liar() of one", () -> reported(new int[] {0, 2, 4}), x -> x.liar(), 0);
        Edges.still("liar() of two that gainsay one another", () -> reported(new int[] {5, 0, 0}, new int[] {5, 1, 1}), x -> x.liar(), 0);
        for (int wrong = 0; wrong <= 5; wrong++) {
            int which = wrong;
            Edges.still("liar() when " + wrong + " of six is wrong", () -> {
                BenchTowels x = new BenchTowels();
                for (int i = 0; i <= 5; i++) x.report(i == which ? 0 : 15, i == which ? 2 : 1, 4);
                return x;
            }, x -> x.liar(), wrong);
        }
        Edges.still("liar() when two of six are wrong", () -> reported(new int[] {15, 0, 4}, new int[] {15, 0, 4}, new int[] {15, 0, 4},
            new int[] {15, 0, 4}, new int[] {0, 2, 4}, new int[] {0, 2, 4}), x -> x.liar(), -3);
    }

    private static void seed() {
        Due.by(34, "z becomes v: what it was.");
        BenchTowels x = new BenchTowels();
        int was = 1;
        for (int v : new int[] {0, -1, Edges.MIN, Edges.MAX, 1, -12, 65536}) {
            Due.is("seed(" + v + ")", x.seed(v), was);
            was = v;
        }
        Edges.still("seed(77), as it is", Edges::busy, y -> y.seed(77), 77);
        for (int v : new int[] {Edges.MIN, Edges.MAX, -1, 0}) {
            Edges.still("seed(" + v + ") and back", Edges::busy, y -> y.seed(v) * 0 + y.seed(77), v);
        }
    }

    /** z as the document tells it, by longs: what is above 32 bits is cut off. */
    private static int next(int z) {
        return (int) ((z * 1103515245L + 12345L) & 0xffffffffL);
    }

    private static void lot() {
        Due.by(35, "z (an int; 1 at first) becomes z * 1103515245 + 12345; the ACT in it is what z >>> 16 leaves by how many SETS there are and 1.");
        for (int many = 0; many <= 6; many++) {
            for (int seed : new int[] {1, 0, -1, Edges.MIN, Edges.MAX, 77, 1 << 16, -77777}) {
                BenchTowels x = new BenchTowels();
                for (int s = 0; s < many; s++) x.set(3, s, 9, s % 3);
                for (int s = 0; s < many; s++) x.change(s, 4, 9);
                x.seed(seed);
                int z = seed;
                for (int i = 0; i < 8; i++) {
                    z = next(z);
                    int act = (int) ((z & 0xffffffffL) / 65536 % (many + 1));
                    int[] left = new int[6];
                    for (int s = 0; s < many; s++) left[s] = x.setOf(s, 4);
                    int score = x.state(2);
                    int worth = x.lot();
                    Due.is("SCORE behind lot()", x.state(2), score + worth);
                    for (int s = 0; s < many; s++) {
                        Due.is("LEFT of " + s + " behind lot() no. " + i + " of " + seed, x.setOf(s, 4), s + 1 == act ? left[s] - 1 : left[s]);
                    }
                    Due.is("MINUTE", x.state(0), i + 1);
                }
                Due.is("z behind lots", x.seed(1), z);
            }
        }
    }

    private static void lotOver() {
        Due.by(35, "STATE: it is OVER.");
        Edges.still("lot() when it is OVER", Edges::over, x -> x.lot(), -4);
        BenchTowels x = one(1);
        x.seed(5);
        Due.is("lot() in the last MINUTE is refused", x.lot() < 0 ? 1 : 0, 0);
        Due.is("lot() then", x.lot(), -4);
        Due.is("z stays then", x.seed(5), next(5));
        Due.is("lot() without SETS", new BenchTowels().lot(), 0);
    }

    private static void times() {
        Due.by(36, "How many of n (1 to 40) times");
        Edges.bounds("times(v, 0)", Edges::busy, (x, v) -> x.times(v, 0), 1, 40, -1);
        Edges.bounds("times(v, 0) when it is OVER", Edges::over, (x, v) -> x.times(v, 0), 1, 40, -1);
        Due.by(36, "are WORTH v (0 to 999) or more");
        Edges.bounds("times(40, v)", Edges::busy, (x, v) -> x.times(40, v), 0, 999, -1);
        for (int n : new int[] {1, 2, 39, 40}) {
            Edges.still("times(" + n + ", 0)", Edges::busy, x -> x.times(n, 0), n);
            Edges.still("times(" + n + ", 999)", Edges::busy, x -> x.times(n, 999), 0);
            Edges.still("times(" + n + ", 0) when it is OVER", Edges::over, x -> x.times(n, 0), n);
            Edges.still("times(" + n + ", 1) when it is OVER", Edges::over, x -> x.times(n, 1), 0);
        }
    }

    private static void timesOrMore() {
        Due.by(36, "each from how it is now (z goes on from one to the next), are WORTH v (0 to 999) or more (all is as it was in the end, z, too)");
        for (int seed : new int[] {1, -1, Edges.MIN, Edges.MAX}) {
            // Just one MINUTE each time, in which it is WORTH 9 or nothing.
            int z = seed;
            int nines = 0;
            for (int n = 1; n <= 40; n++) {
                z = next(z);
                nines += (z >>> 16) % 2;
                int many = n;
                int due = nines;
                Edges.still("times(" + n + ", 9) of " + seed, () -> oneBy(1, seed), x -> x.times(many, 9), due);
                Due.is("times(" + n + ", 1)", oneBy(1, seed).times(n, 1), due);
                Due.is("times(" + n + ", 10)", oneBy(1, seed).times(n, 10), 0);
            }
        }
        // The same MINUTES one by one: as much as they are WORTH, and 1 more.
        for (int seed = 0; seed < 20; seed++) {
            BenchTowels x = oneBy(16, seed);
            int worth = 0;
            for (int t = 0; t < 16; t++) worth += x.lot();
            Due.is("times(1, as much) of " + seed, oneBy(16, seed).times(1, worth), 1);
            Due.is("times(1, 1 more) of " + seed, oneBy(16, seed).times(1, worth + 1), 0);
        }
        Due.by(36, "How many of n (1 to 40) times all MINUTES yet by LOT");
        for (int t = 0; t <= 15; t++) {
            // It MAY in one of the 16 MINUTES alone, and is told in it by every second z or so.
            int z = 1;
            int due = 0;
            for (int i = 0; i < 40 * 16; i++) {
                z = next(z);
                if (i % 16 == t) due += (z >>> 16) % 2;
            }
            BenchTowels x = new BenchTowels();
            x.set(5, 0, 9, 0);
            x.machine(0, 1, 1 << t);
            x.ends(16);
            Due.is("times(40, 1) when it MAY in " + t, x.times(40, 1), due);
        }
    }

    private static BenchTowels oneBy(int minutes, int seed) {
        BenchTowels x = one(minutes);
        x.seed(seed);
        return x;
    }
}
