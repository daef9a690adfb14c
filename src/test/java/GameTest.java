/** Promises 28 to 36: a game, men, lots. */
public final class GameTest {
    public static void main(String[] args) {
        game();
        gameOver();
        report();
        span();
        liar();
        seed();
        lot();
        times();
        Due.end("GameTest");
    }

    // Promises 28 and 29
    private static void game() {
        BenchTowels x = new BenchTowels();
        Due.is("no SETS", x.game(4), 0);
        Due.is("no SETS", x.play(4), 0);
        x.set(4, 0, 9, 0);
        x.set(2, 1, 9, 1);
        x.set(4, 0, 2, 0);
        Due.is("game(1)", x.game(1), 6);
        Due.is("play(1)", x.play(1), 1);
        // The other one does nothing, or the SET of WEIGHT 2 (worth 0 behind 9) that spoils LOAD and tires.
        Due.is("game(2)", x.game(2), 6);
        Due.is("play(2)", x.play(2), 1);
        // 1 is 6, then 3 is 0 (2 - 2 - 7 / 3) that tires (4) and leaves LOAD 2, then 2 is 5: 11.
        // 2 is 5, then 0 (3 would give 2), then 2 again is 8 (or 1 is 6): 13.
        Due.is("game(3)", x.game(3), 13);
        Due.is("play(3)", x.play(3), 2);
        x.change(0, 4, 0);
        x.change(1, 4, 0);
        x.change(2, 4, 0);
        Due.is("nothing to gain", x.game(2), 0);
        Due.is("the least ACT", x.play(2), 0);
        x.change(1, 4, 1);
        Due.is("game(2) with one", x.game(2), 5);
        Due.is("play(2) with one", x.play(2), 2);
        Due.is("nothing changed", x.state(0) + x.setOf(1, 4) + x.machineOf(0, 0), 1);
        // Who is second does the last one of it in a MINUTE in which it's worth less.
        x = new BenchTowels();
        x.set(2, 0, 1, 0);
        x.set(4, 1, 9, 0);
        Due.is("play() ahead of game()", x.play(1), 2);
        x = new BenchTowels();
        x.set(3, 0, 9, 0);
        x.change(0, 4, 1);
        x.minute();
        x.change(0, 4, 1);
        x.machine(0, 0, 0);
        x.tire(0, 0);
        Due.is("in MINUTE 1: 8 - 3", x.game(1), 5);
        Due.is("game(2): now or never", x.game(2), 5);
        Due.is("game(3)", x.game(3), 5);
        x.tire(0, 4);
        // In MINUTE 1 8 - 3 - 4 is 1; the second player, if he must, would give 8 + 3 - 3 - 3: he does nothing; then 6 in 3.
        Due.is("game(3), TIRED", x.game(3), 3);
        Due.is("play(3), TIRED", x.play(3), 0);
        Due.is("game(2), TIRED", x.game(2), 1);
        Due.is("play(2), TIRED", x.play(2), 1);
        for (int n : new int[] {0, -1, 5, Integer.MAX_VALUE}) {
            Due.is("game of a wrong n", x.game(n), -1);
            Due.is("play of a wrong n", x.play(n), -1);
        }
    }

    private static void gameOver() {
        BenchTowels x = new BenchTowels();
        x.set(4, 0, 9, 0);
        x.ends(1);
        Due.is("till it is OVER", x.game(4), 6);
        Due.is("play", x.play(4), 1);
        x.minute();
        Due.is("OVER", x.game(1), 0);
        Due.is("OVER", x.play(1), -3);
        Due.is("OVER, a wrong n", x.play(0), -1);
        Due.is("OVER, a wrong n", x.play(5), -1);
    }

    // Promises 30 and 31
    private static void report() {
        BenchTowels x = new BenchTowels();
        int[][] bad = {{-1, 0, 0}, {16, 0, 0}, {0, -1, 0}, {0, 0, 5}, {0, 5, 5}, {0, 0, -1}, {0, 3, 2}, {0, -2, -1}};
        for (int[] b : bad) Due.is("wrong report", x.report(b[0], b[1], b[2]), -1);
        Due.is("none came", x.forget(), 0);
        for (int i = 0; i < 6; i++) Due.is("report no. " + i, x.report(15, 0, 4), i);
        Due.is("many(3)", x.many(3), 6);
        Due.is("a seventh", x.report(15, 0, 4), -2);
        Due.is("a seventh, wrong: the first named", x.report(15, 1, 0), -1);
        Due.is("forget()", x.forget(), 6);
        Due.is("many(3)", x.many(3), 0);
        Due.is("report(0, 4, 4)", x.report(0, 4, 4), 0);
        Due.is("he can't have", x.span(0), 0);
        Due.is("forget()", x.forget(), 1);
        Due.is("all men", x.span(0), 256);
    }

    // Promise 32
    private static void span() {
        BenchTowels x = new BenchTowels();
        Due.is("all START", x.span(1), 0);
        Due.is("all PAUSE", x.span(2), 1);
        Due.is("all TIMES", x.span(3), 1);
        // One START in 16, behind which he has sat once.
        x.report(0, 1, 1);
        Due.is("START 0", x.span(0), 16);
        x.report(1, 1, 1);
        // PAUSE 2 to 4 with all TIMES, and PAUSE 1 with one.
        Due.is("not in 1", x.span(0), 13);
        x.report(2, 2, 4);
        Due.is("in 2: PAUSE 2, TIMES 2 to 4", x.span(0), 3);
        Due.is("PAUSE", x.span(2), 2);
        Due.is("TIMES", x.span(3), 2);
        x.report(15, 4, 4);
        Due.is("just one", x.span(0), 1);
        Due.is("START", x.span(1), 0);
        Due.is("TIMES", x.span(3), 4);
        x.forget();
        x.report(14, 0, 0);
        Due.is("START 15", x.span(0), 16);
        Due.is("START 15", x.span(1), 15);
        x.report(14, 1, 1);
        Due.is("none", x.span(0), 0);
        for (int what = 1; what <= 3; what++) Due.is("none", x.span(what), -3);
        Due.is("span(4)", x.span(4), -1);
        Due.is("span(-1)", x.span(-1), -1);
        x.forget();
        // The least START goes ahead of the least PAUSE: 3 by PAUSE 4, not 5 by PAUSE 2.
        x.report(2, 0, 0);
        x.report(5, 1, 1);
        x.report(6, 1, 1);
        x.report(7, 2, 2);
        Due.is("START", x.span(1), 3);
        Due.is("PAUSE", x.span(2), 4);
        Due.is("TIMES", x.span(3), 2);
    }

    // Promise 33
    private static void liar() {
        BenchTowels x = new BenchTowels();
        Due.is("no REPORTS: all FIT", x.liar(), -3);
        x.report(3, 2, 2);
        Due.is("some FIT", x.liar(), -3);
        x.report(3, 3, 3);
        Due.is("the least of two", x.liar(), 0);
        x.report(3, 2, 2);
        Due.is("but for the second", x.liar(), 1);
        x.report(3, 3, 3);
        Due.is("two against two", x.liar(), -3);
        Due.is("none FIT", x.span(0), 0);
        x.forget();
        x.report(0, 2, 4);
        Due.is("it alone", x.liar(), 0);
        x.report(0, 2, 2);
        Due.is("two of them", x.liar(), -3);
        x.forget();
        // One man alone FITS: START 0, PAUSE 4, TIMES 2.
        x.report(0, 1, 1);
        x.report(3, 1, 1);
        x.report(4, 2, 2);
        x.report(15, 2, 2);
        Due.is("just one", x.span(0), 1);
        Due.is("one FITS", x.liar(), -3);
        x.forget();
        Due.is("no REPORTS: liar", x.liar(), -3);
        x.report(0, 3, 3);
        x.report(0, 4, 4);
        x.report(0, 3, 4);
        Due.is("none but for one", x.liar(), -3);
        for (int i = 0; i < 3; i++) x.report(0, 2, 4);
        Due.is("none but for one of six", x.liar(), -3);
        x.forget();
        for (int i = 0; i < 5; i++) x.report(15, 0, 4);
        x.report(0, 4, 4);
        Due.is("the last", x.liar(), 5);
    }

    // Promise 34
    private static void seed() {
        BenchTowels x = new BenchTowels();
        Due.is("seed(MIN)", x.seed(Integer.MIN_VALUE), 1);
        Due.is("seed(MAX)", x.seed(Integer.MAX_VALUE), Integer.MIN_VALUE);
        Due.is("seed(-1)", x.seed(-1), Integer.MAX_VALUE);
        Due.is("seed(0)", x.seed(0), -1);
    }

    // Promise 35
    private static void lot() {
        BenchTowels x = new BenchTowels();
        Due.is("no SETS", x.lot(), 0);
        Due.is("z goes on", x.seed(1), 1103527590);
        Due.is("MINUTE", x.state(0), 1);
        for (int i = 0; i < 4; i++) x.set(3, i, 9, 0);
        for (int i = 0; i < 4; i++) x.change(i, 4, 9);
        x.ends(16);
        int z = -77777;
        x.seed(z);
        for (int i = 0; i < 15; i++) {
            z = z * 1103515245 + 12345;
            int act = (z >>> 16) % 5;
            int left = act > 0 ? x.setOf(act - 1, 4) : 0;
            int score = x.state(2);
            int worth = x.lot();
            Due.is("SCORE", x.state(2), score + worth);
            if (act > 0) Due.is("the SET by lot", x.setOf(act - 1, 4), left - 1);
            else Due.is("none by lot", worth, 0);
        }
        Due.is("OVER", x.lot(), -4);
        Due.is("z stays then", x.seed(1), z);
    }

    // Promise 36
    private static void times() {
        BenchTowels x = new BenchTowels();
        x.set(4, 0, 9, 0);
        x.ends(1);
        // One MINUTE each: 6 or nothing, by z.
        int z = 99;
        int sixes = 0;
        for (int i = 0; i < 40; i++) {
            z = z * 1103515245 + 12345;
            sixes += (z >>> 16) % 2;
        }
        x.seed(99);
        Due.is("times(40, 6)", x.times(40, 6), sixes);
        Due.is("times(40, 1)", x.times(40, 1), sixes);
        Due.is("times(40, 7)", x.times(40, 7), 0);
        Due.is("times(40, 0)", x.times(40, 0), 40);
        Due.is("times(40, 999)", x.times(40, 999), 0);
        Due.is("times(1, 0)", x.times(1, 0), 1);
        Due.is("z is as it was", x.seed(99), 99);
        Due.is("all is as it was", x.state(0) + x.state(2) + x.state(5) + x.machineOf(0, 0) + x.setOf(0, 4), 3);
        x.ends(16);
        x.change(0, 4, 9);
        // All 16 MINUTES count.
        z = 99;
        int told = 0;
        for (int t = 0; t < 16; t++) {
            z = z * 1103515245 + 12345;
            told |= (z >>> 16) % 2 << t;
        }
        BenchTowels y = new BenchTowels();
        y.set(4, 0, 9, 0);
        y.change(0, 4, 9);
        y.ends(16);
        y.sheet(0, 0, 16);
        for (int t = 0; t < 16; t++) y.write(0, t, told >> t & 1);
        int most = y.wouldBe(0, 0, 16);
        Due.is("just as much", x.times(1, most), 1);
        Due.is("no more", x.times(1, most + 1), 0);
        x.ends(1);
        x.minute();
        Due.is("OVER: 0 each", x.times(7, 0), 7);
        Due.is("OVER: 0 each", x.times(7, 1), 0);
        int[][] bad = {{0, 0}, {41, 0}, {-1, 0}, {1, -1}, {1, 1000}};
        for (int[] b : bad) Due.is("wrong times", x.times(b[0], b[1]), -1);
    }
}
