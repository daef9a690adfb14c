/** Promises 19 to 22: who waits. */
public final class WaitTest {
    public static void main(String[] args) {
        gather();
        gathered();
        whatCountsNot();
        free();
        busiest();
        Due.end("WaitTest");
    }

    // Promise 19
    private static void gather() {
        BenchTowels x = new BenchTowels();
        Due.is("of none", x.gather(0), 0);
        Due.is("no such", x.gather(1), -1);
        x.minute();
        Due.is("of none: MINUTE", x.gather(0), 1);
        x.anew();
        for (int i = 0; i < 6; i++) x.set(4, i, 5, 0);
        Due.is("six free ones", x.gather(63), 5);
        Due.is("one", x.gather(32), 0);
        Due.is("gather(64)", x.gather(64), -1);
        Due.is("gather(-1)", x.gather(-1), -1);
        Due.is("gather(MIN)", x.gather(Integer.MIN_VALUE), -1);
        x.ends(6);
        Due.is("as many as there are", x.gather(63), 5);
        x.ends(5);
        Due.is("too few MINUTES", x.gather(63), -3);
        Due.is("five of them", x.gather(62), 4);
        Due.is("one of one, in MINUTE 0", x.gathered(1, 0), 0);
        Due.is("one of five", x.gathered(62, 5), 4);
        x.minute();
        Due.is("from MINUTE on", x.gather(7), 3);
        x.ends(1);
        Due.is("OVER", x.gather(1), -3);
        Due.is("of none, OVER", x.gather(0), 1);
        x = new BenchTowels();
        x.set(5, 0, 5, 0);
        x.set(5, 1, 5, 0);
        x.set(3, 1, 5, 0);
        x.machine(0, 1, 1 << 7);
        x.machine(1, 1, 1 << 7);
        Due.is("two by one MINUTE", x.gather(3), -3);
        x.machine(1, 1, 1 << 7 | 1 << 11);
        Due.is("the last ahead of END", x.gather(7), 11);
        x.machine(1, 1, 1 << 7 | 1 << 12);
        Due.is("END is too late", x.gather(7), -3);
        x.ends(16);
        Due.is("END is later", x.gather(7), 12);
    }

    // Promise 20
    private static void gathered() {
        BenchTowels x = new BenchTowels();
        x.set(3, 0, 5, 0);
        x.set(5, 1, 5, 0);
        x.set(5, 2, 5, 0);
        x.set(3, 0, 5, 0);
        x.machine(1, 1, 0b1001);
        x.machine(2, 1, 0b0101);
        // The last at 3: the first SET can't have 0, as the second and third then had 3 and 2, and the fourth 1: it can.
        Due.is("gather(15)", x.gather(15), 3);
        int[] row = {0, 3, 2, 1};
        for (int s = 0; s < 4; s++) Due.is("gathered(15, " + s + ")", x.gathered(15, s), row[s]);
        x.machine(1, 1, 0b0001);
        int[] other = {1, 0, 2, 3};
        for (int s = 0; s < 4; s++) Due.is("gathered(15, " + s + "), 1 taken in 0", x.gathered(15, s), other[s]);
        // Within the least last MINUTE: the second in 0, that the row ends with 2.
        x.machine(1, 1, 0b1001);
        Due.is("gather(7)", x.gather(7), 2);
        Due.is("gathered(7, 0)", x.gathered(7, 0), 1);
        Due.is("gathered(7, 1)", x.gathered(7, 1), 0);
        Due.is("gathered(7, 2)", x.gathered(7, 2), 2);
        Due.is("none of them", x.gathered(7, 3), -3);
        Due.is("no such SET", x.gathered(7, 4), -1);
        Due.is("no such SET", x.gathered(7, -1), -1);
        Due.is("no such sets", x.gathered(16, 0), -1);
        Due.is("no such sets", x.gathered(-1, 0), -1);
        x.machine(1, 1, 0);
        Due.is("as gather()", x.gathered(3, 0), -3);
        Due.is("of none", x.gathered(0, 0), -3);
        x.minute();
        Due.is("from MINUTE on", x.gathered(9, 3), 2);
        x.ends(1);
        Due.is("OVER", x.gathered(1, 0), -3);
    }

    private static void whatCountsNot() {
        BenchTowels x = new BenchTowels();
        x.set(4, 0, 5, 0);
        x.set(1, 1, 5, 0);
        x.change(0, 4, 0);
        x.tire(0, 9);
        Due.rules(x, "set wait;");
        Due.is("whatever is LEFT, whoever is TIRED", x.gather(3), 1);
        Due.is("gathered(3, 1)", x.gathered(3, 1), 1);
        Due.is("nothing changed", x.state(0) + x.setOf(0, 4) * 10 + x.state(5), 9);
    }

    // Promise 21
    private static void free() {
        BenchTowels x = new BenchTowels();
        x.machine(3, 1, 0b0001001000000011);
        Due.is("free(3, 1)", x.free(3, 1), 2);
        Due.is("free(3, 7)", x.free(3, 7), 2);
        Due.is("free(3, 8)", x.free(3, 8), -3);
        Due.is("free(2, 16)", x.free(2, 16), 0);
        for (int t = 0; t < 10; t++) x.minute();
        Due.is("from MINUTE on", x.free(3, 1), 10);
        Due.is("from MINUTE on", x.free(3, 2), 10);
        Due.is("behind END, too", x.free(3, 3), 13);
        Due.is("15 at most", x.free(3, 4), -3);
        Due.is("free(2, 6)", x.free(2, 6), 10);
        Due.is("free(2, 7)", x.free(2, 7), -3);
        x.ends(16);
        for (int t = 10; t < 16; t++) x.minute();
        Due.is("MINUTE 16", x.free(2, 1), -3);
        Due.is("free(6, 1)", x.free(6, 1), -1);
        Due.is("free(-1, 1)", x.free(-1, 1), -1);
        Due.is("free(0, 0)", x.free(0, 0), -1);
        Due.is("free(0, 17)", x.free(0, 17), -1);
        Due.is("free of wild numbers", x.free(0, Integer.MIN_VALUE), -1);
        x.anew();
        x.machine(0, 1, 0x7fff);
        Due.is("just 15", x.free(0, 1), 15);
        x.machine(0, 1, 0xffff);
        Due.is("never", x.free(0, 1), -3);
    }

    // Promise 22
    private static void busiest() {
        BenchTowels x = new BenchTowels();
        Due.is("none taken: 0", x.busiest(0), 0);
        Due.is("none taken: 0", x.busiest(1), 0);
        x.machine(5, 1, 1 << 15);
        Due.is("MINUTE 15", x.busiest(0), 15);
        Due.is("one", x.busiest(1), 1);
        for (int t = 14; t >= 0; t--) {
            x.machine(4, 1, 1 << t);
            x.machine(3, 1, 1 << t);
            Due.is("MINUTE " + t, x.busiest(0), t);
        }
        x.machine(4, 1, 0);
        x.machine(3, 1, 0);
        x.machine(0, 1, 1 << 9 | 1 << 4);
        x.machine(1, 1, 1 << 9 | 1 << 4);
        Due.is("of several the least", x.busiest(0), 4);
        Due.is("two", x.busiest(1), 2);
        for (int m = 0; m < 6; m++) x.machine(m, 1, 65535);
        Due.is("six", x.busiest(1), 6);
        x.minute();
        Due.is("those gone, too", x.busiest(0), 0);
        Due.is("busiest(2)", x.busiest(2), -1);
        Due.is("busiest(-1)", x.busiest(-1), -1);
    }
}
