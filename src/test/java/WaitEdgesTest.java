/** Promises 19 to 22, by the sentences of the document that name an edge. */
public final class WaitEdgesTest {
    public static void main(String[] args) {
        sets();
        gather();
        gatherWhatever();
        gathered();
        firstRow();
        free();
        busiest();
        Due.end("WaitEdgesTest");
    }

    /** So many SETS of KIND held, each at a MACHINE of its own. */
    private static BenchTowels held(int many) {
        BenchTowels x = new BenchTowels();
        for (int s = 0; s < many; s++) x.set(4, s, 5, s % 3);
        return x;
    }

    private static void sets() {
        Due.by(19, "GATHER of a set of SETS (of such as there are)");
        for (int many = 0; many <= 6; many++) {
            int n = many;
            Edges.bounds("gather(v) of " + n + " SETS", () -> held(n), (x, v) -> x.gather(v), 0, (1 << n) - 1, -1);
            for (int bit = 0; bit < 32; bit++) {
                int set = bit;
                Edges.still("gather() of SET " + bit + " of " + n, () -> held(n), x -> x.gather(1 << set), bit < n ? 0 : -1);
            }
        }
        Edges.still("gather(32) when it is OVER", Edges::over, x -> x.gather(32), -1);
        Edges.still("gather(31) when it is OVER", Edges::over, x -> x.gather(31), -3);
    }

    private static void gather() {
        Due.by(19, "the MINUTE (of none: MINUTE)");
        BenchTowels x = new BenchTowels();
        x.ends(16);
        for (int t = 0; t <= 16; t++) {
            Due.is("gather(0) in " + t, x.gather(0), t);
            x.minute();
        }
        Edges.still("gather(0) when it is OVER", Edges::over, y -> y.gather(0), 3);
        Due.by(19, "one in a MINUTE, each in one in which it MAY, from MINUTE on, ahead of END");
        for (int many = 1; many <= 6; many++) {
            x = held(many);
            int all = (1 << many) - 1;
            Due.is("gather() of " + many, x.gather(all), many - 1);
            x.ends(many);
            Due.is("gather() of " + many + ", END " + many, x.gather(all), many - 1);
            if (many > 1) x.ends(many - 1);
            Due.is("gather() of " + many + ", END one less", x.gather(all), many > 1 ? -3 : 0);
            x.ends(16);
            for (int s = 0; s < many; s++) x.change(s, 4, 0);
            for (int t = 0; t < 16 - many; t++) x.minute();
            Due.is("gather() of " + many + " when so many MINUTES are left", x.gather(all), 15);
            x.minute();
            Due.is("gather() of " + many + " when one less is left", x.gather(all), -3);
        }
        for (int t = 0; t <= 15; t++) {
            x = new BenchTowels();
            x.set(5, 5, 5, 0);
            x.machine(5, 1, 1 << t);
            x.ends(t + 1);
            Due.is("gather(1), it MAY in " + t + ", END " + (t + 1), x.gather(1), t);
            if (t > 0) x.ends(t);
            Due.is("gather(1), it MAY in " + t + ", END " + t, x.gather(1), t > 0 ? -3 : 0);
            x.ends(16);
            x.change(0, 4, 0);
            for (int i = 0; i < t; i++) x.minute();
            Due.is("gather(1), it MAY in " + t + ", in that MINUTE", x.gather(1), t);
            x.minute();
            Due.is("gather(1), it MAY in " + t + ", a MINUTE later", x.gather(1), -3);
        }
        Due.by(19, "NONE: they can't be.");
        x = new BenchTowels();
        for (int s = 0; s < 3; s++) x.set(5, s, 5, 0);
        for (int m = 0; m < 3; m++) x.machine(m, 1, 0b11);
        Due.is("three that MAY in the same two MINUTES", x.gather(7), -3);
        Due.is("two of them", x.gather(6), 1);
        x.machine(1, 1, 0b110);
        Due.is("three, one of them in a third MINUTE", x.gather(7), 2);
    }

    private static void gatherWhatever() {
        Due.by(19, "(whatever is LEFT, whoever is TIRED)");
        BenchTowels x = held(6);
        for (int s = 0; s < 6; s++) x.change(s, 4, 0);
        for (int i = 0; i < 3; i++) x.tire(i, 9);
        Due.is("gather(63), none LEFT, all TIRED 9", x.gather(63), 5);
        Due.is("gathered(63, 5)", x.gathered(63, 5), 5);
        Due.rules(x, "set wait;");
        Due.is("gather(63), whatever the WILL is", x.gather(63), 5);
    }

    private static void gathered() {
        Due.by(20, "In which MINUTE a SET is done in the FIRST row.");
        Edges.bounds("gathered(v, 0) of five SETS", Edges::busy, (x, v) -> x.gathered(v, 0), 0, 31, -1);
        Edges.bounds("gathered(31, v) of five SETS", Edges::busy, (x, v) -> x.gathered(31, v), 0, 4, -1);
        Edges.bounds("gathered(v, 0) of six SETS", () -> held(6), (x, v) -> x.gathered(v, 0), 0, 63, -1);
        Edges.bounds("gathered(63, v) of six SETS", () -> held(6), (x, v) -> x.gathered(63, v), 0, 5, -1);
        Edges.still("gathered(0, 0) of no SETS", BenchTowels::new, x -> x.gathered(0, 0), -1);
        Due.by(20, "NONE: as gather(), or it is none of them.");
        for (int s = 0; s < 6; s++) {
            int asked = s;
            Edges.still("gathered(0, " + s + ")", () -> held(6), x -> x.gathered(0, asked), -3);
            Edges.still("gathered() of all but " + s, () -> held(6), x -> x.gathered(63 ^ 1 << asked, asked), -3);
            Edges.still("gathered() of " + s + " alone", () -> held(6), x -> x.gathered(1 << asked, asked), 0);
            Edges.still("gathered(63, " + s + ")", () -> held(6), x -> x.gathered(63, asked), s);
        }
        BenchTowels x = held(6);
        x.ends(5);
        for (int s = 0; s < 6; s++) Due.is("gathered(63, " + s + ") in five MINUTES", x.gathered(63, s), -3);
        Edges.still("gathered(1, 0) when it is OVER", Edges::over, y -> y.gathered(1, 0), -3);
        Due.by(20, "of several the first named");
        Edges.still("gathered(1, 5), OVER and no such SET", Edges::over, y -> y.gathered(1, 5), -1);
        Edges.still("gathered(32, 0), OVER and no such SETS", Edges::over, y -> y.gathered(32, 0), -1);
        Edges.still("gathered(0, -1), none of them and no such SET", Edges::busy, y -> y.gathered(0, -1), -1);
        Edges.still("gathered(-1, 0), all bits", Edges::busy, y -> y.gathered(-1, 0), -1);
    }

    private static void firstRow() {
        Due.by(20, "the FIRST such row: by numbers each in the least MINUTE, where they are unlike first");
        BenchTowels x = new BenchTowels();
        x.set(3, 0, 5, 0);
        x.set(5, 1, 5, 0);
        x.set(3, 0, 5, 0);
        x.machine(1, 1, 0b011);
        // 0, 1, 2 goes ahead of 1, 0, 2 and of 2, 0, 1.
        for (int s = 0; s < 3; s++) Due.is("gathered(7, " + s + ")", x.gathered(7, s), s);
        x.machine(1, 1, 0b001);
        int[] due = {1, 0, 2};
        for (int s = 0; s < 3; s++) Due.is("gathered(7, " + s + ") when 1 MAY in 0 alone", x.gathered(7, s), due[s]);
        x.machine(1, 1, 0b1000);
        int[] late = {0, 3, 1};
        for (int s = 0; s < 3; s++) Due.is("gathered(7, " + s + ") when 1 MAY in 3 alone", x.gathered(7, s), late[s]);
        // The least last MINUTE goes ahead: 0 in 0 would have 1 in 4.
        x.machine(1, 1, 0b10001);
        Due.is("gather(3)", x.gather(3), 1);
        Due.is("gathered(3, 0)", x.gathered(3, 0), 1);
        Due.is("gathered(3, 1)", x.gathered(3, 1), 0);
    }

    private static void free() {
        Due.by(21, "FREE (n 1 to 16)");
        Edges.bounds("free(0, v)", BenchTowels::new, (x, v) -> x.free(0, v), 1, 16, -1);
        Due.by(21, "MACHINES 0 to 5");
        Edges.bounds("free(v, 1)", Edges::busy, (x, v) -> x.free(v, 1), 0, 5, -1);
        Due.by(21, "the least MINUTE, from MINUTE on, at which n MINUTES begin, all 15 at most, in which it isn't TAKEN");
        for (int n = 1; n <= 16; n++) {
            BenchTowels x = new BenchTowels();
            Due.is("free(5, " + n + ")", x.free(5, n), 0);
            x.ends(16);
            for (int t = 0; t < 16 - n; t++) x.minute();
            Due.is("free(5, " + n + ") when so many MINUTES are left", x.free(5, n), 16 - n);
            x.minute();
            Due.is("free(5, " + n + ") when one less is left", x.free(5, n), -3);
        }
        for (int t = 0; t <= 15; t++) {
            BenchTowels x = new BenchTowels();
            x.machine(2, 1, 0xffff ^ 1 << t);
            Due.is("free(2, 1), all but " + t + " TAKEN", x.free(2, 1), t);
            Due.is("free(2, 2), all but " + t + " TAKEN", x.free(2, 2), -3);
            x.machine(2, 1, 1 << t);
            int longest = Math.max(t, 15 - t);
            Due.is("free(2, " + longest + "), " + t + " TAKEN", x.free(2, longest), t >= 15 - t ? 0 : t + 1);
            Due.is("free(2, " + (longest + 1) + "), " + t + " TAKEN", x.free(2, longest + 1), -3);
        }
        BenchTowels x = new BenchTowels();
        x.machine(2, 1, 0xffff);
        Due.is("free(2, 1), all TAKEN", x.free(2, 1), -3);
        x.machine(2, 1, 0);
        x.ends(1);
        Due.is("free(2, 16), END 1", x.free(2, 16), 0);
        x.minute();
        Due.is("free(2, 15) when it is OVER", x.free(2, 15), 1);
        Due.is("free(2, 16) when it is OVER", x.free(2, 16), -3);
        Edges.still("free(0, 13)", Edges::busy, y -> y.free(0, 13), 3);
        Edges.still("free(0, 14)", Edges::busy, y -> y.free(0, 14), -3);
        Due.by(21, "of several the first named");
        Edges.still("free(0, 14), which is NONE", Edges::over, y -> y.free(0, 14), -3);
        Edges.still("free(6, 14)", Edges::over, y -> y.free(6, 14), -1);
        Edges.still("free(-1, 16)", Edges::over, y -> y.free(-1, 16), -1);
        Edges.still("free(0, 17)", Edges::over, y -> y.free(0, 17), -1);
        Edges.still("free(0, 0)", Edges::over, y -> y.free(0, 0), -1);
    }

    private static void busiest() {
        Due.by(22, "BUSIEST: what 0 the MINUTE, 1 how many MACHINES.");
        Edges.bounds("busiest(v)", Edges::busy, (x, v) -> x.busiest(v), 0, 1, -1);
        Due.by(22, "the MINUTE (0 to 15) in which most MACHINES are TAKEN; of several the least");
        BenchTowels x = new BenchTowels();
        Due.is("busiest(0), none TAKEN", x.busiest(0), 0);
        Due.is("busiest(1), none TAKEN", x.busiest(1), 0);
        for (int t = 0; t <= 15; t++) {
            x = new BenchTowels();
            for (int m = 0; m <= 5; m++) {
                x.machine(m, 1, 1 << t);
                Due.is("busiest(0), " + (m + 1) + " TAKEN in " + t, x.busiest(0), t);
                Due.is("busiest(1), " + (m + 1) + " TAKEN in " + t, x.busiest(1), m + 1);
            }
            for (int m = 0; m <= 5; m++) x.machine(m, 1, 0xffff ^ (1 << t) - 1);
            Due.is("busiest(0), all TAKEN from " + t + " on", x.busiest(0), t);
            x.ends(1);
            x.minute();
            Due.is("busiest(0), whatever MINUTE it is", x.busiest(0), t);
        }
        Edges.still("busiest(0)", Edges::busy, y -> y.busiest(0), 2);
        Edges.still("busiest(1)", Edges::busy, y -> y.busiest(1), 3);
    }
}
