/** Promises 14 to 18: minutes, and THE REST. */
public final class MinutesTest {
    public static void main(String[] args) {
        minute();
        whoIsTold();
        byKind();
        on();
        when();
        weightFor();
        machineFor();
        Due.end("MinutesTest");
    }

    // Promise 14
    private static void minute() {
        BenchTowels x = new BenchTowels();
        Due.is("a MINUTE of nothing", x.minute(), 0);
        Due.is("MINUTE", x.state(0), 1);
        x.set(4, 0, 9, 0);
        x.tire(1, 5);
        x.tire(2, 1);
        Due.is("9 less 9 / 3", x.minute(), 6);
        Due.is("its MUSCLE", x.state(5), 2);
        Due.is("another MUSCLE", x.state(6), 4);
        Due.is("another MUSCLE", x.state(7), 0);
        Due.is("LOAD", x.machineOf(0, 0), 9);
        Due.is("LEFT", x.setOf(0, 4), 2);
        Due.is("9 less 2", x.minute(), 7);
        Due.is("0 is the least", x.state(7), 0);
        Due.is("SCORE", x.state(2), 13);
        x.ends(3);
        Due.is("OVER", x.minute(), -4);
        Due.is("MINUTE", x.state(0), 3);
        Due.is("nothing done", x.setOf(0, 4), 1);
        x.ends(16);
        for (int t = 3; t < 16; t++) Due.is("not OVER in " + t, x.minute() >= 0 ? 1 : 0, 1);
        Due.is("OVER at 16", x.minute(), -4);
        Due.is("MINUTE", x.state(0), 16);
        x.anew();
        x.change(0, 2, 4);
        x.machine(0, 0, 9);
        Due.is("4 less 5 / 3", x.minute(), 3);
    }

    // Promise 14: the least of which some is LEFT and that MAY.
    private static void whoIsTold() {
        BenchTowels x = new BenchTowels();
        x.set(1, 0, 3, 0);
        x.set(4, 1, 4, 1);
        x.set(4, 2, 5, 2);
        x.change(1, 4, 1);
        x.machine(0, 1, 0b1111);
        x.minute();
        Due.is("the second: the first MAY not", x.setOf(1, 4), 0);
        x.minute();
        Due.is("the third: the second has none LEFT", x.setOf(2, 4), 2);
        x.change(2, 4, 0);
        Due.is("none", x.minute(), 0);
        x.minute();
        Due.is("the first", x.minute(), 4);
        Due.is("its LEFT", x.setOf(0, 4), 2);
    }

    // Promise 14: WORTH and what is TIRED behind it, each KIND in MINUTE 2 (even) and 3 (odd), WEIGHT 9, LOAD 3, TIRED 1.
    private static void byKind() {
        int[][] worth = {{8, 8}, {5, 5}, {8, 5}, {6, 6}, {15, 15}};
        int[] tired = {4, 2, 2, 3, 4};
        for (int kind = 1; kind <= 5; kind++) {
            for (int t = 2; t <= 3; t++) {
                BenchTowels x = new BenchTowels();
                for (int i = 0; i < t; i++) x.minute();
                x.set(kind, 3, 9, 1);
                if (kind == 5) x.machine(3, 1, 12);
                x.machine(3, 0, 3);
                x.tire(1, 1);
                Due.is("WORTH of KIND " + kind + " in " + t, x.minute(), worth[kind - 1][t - 2]);
                Due.is("TIRED by KIND " + kind, x.state(6), tired[kind - 1]);
            }
        }
    }

    // Promise 15
    private static void on() {
        BenchTowels x = new BenchTowels();
        x.set(2, 0, 9, 0);
        x.tire(2, 4);
        Due.is("on(0)", x.on(0), 0);
        Due.is("on(1)", x.on(1), 5);
        Due.is("on(2)", x.on(2), 12);
        Due.is("on(3)", x.on(3), 18);
        Due.is("on(4)", x.on(4), 18);
        Due.is("on(16)", x.on(16), 18);
        x.ends(2);
        Due.is("on(16): fewer", x.on(16), 12);
        Due.is("on(17)", x.on(17), -1);
        Due.is("on(-1)", x.on(-1), -1);
        Due.is("nothing changed", x.state(0) + x.state(2) + x.state(5) + x.machineOf(0, 0), 0);
        Due.is("nothing changed", x.setOf(0, 4) * 10 + x.state(7), 34);
        x.minute();
        Due.is("on(16) from MINUTE on", x.on(16), 7);
        x.minute();
        Due.is("on(16): OVER", x.on(16), 0);
    }

    // Promise 16
    private static void when() {
        BenchTowels x = new BenchTowels();
        x.set(1, 0, 3, 0);
        x.set(2, 1, 4, 1);
        x.set(5, 2, 5, 2);
        x.set(3, 2, 5, 2);
        x.machine(2, 1, 0b100000000);
        Due.is("when(0)", x.when(0), 1);
        Due.is("when(1)", x.when(1), 0);
        Due.is("when(2)", x.when(2), 8);
        Due.is("when(3)", x.when(3), 6);
        Due.is("when(4)", x.when(4), -1);
        Due.is("when(-1)", x.when(-1), -1);
        x.ends(8);
        Due.is("when(2): OVER ahead", x.when(2), -3);
        x.minute();
        x.minute();
        Due.is("when(0) from MINUTE on", x.when(0), 2);
        x.change(0, 4, 0);
        Due.is("when(0): none LEFT", x.when(0), -3);
        Due.is("when(1)", x.when(1), 2);
        x.ends(2);
        Due.is("when(1): OVER", x.when(1), -3);
    }

    // Promise 17: WEIGHT 9 gains most, but LOAD 9 and what is TIRED tell otherwise in some gyms.
    private static void weightFor() {
        BenchTowels x = new BenchTowels();
        x.set(4, 0, 5, 0);
        Due.is("weightFor(0)", x.weightFor(0), 9);
        Due.is("WEIGHT stays", x.setOf(0, 2), 5);
        x.tire(0, 9);
        x.ends(1);
        Due.is("all 0: the least", x.weightFor(0), 1);
        x.tire(0, 0);
        x.set(5, 0, 1, 1);
        x.change(0, 4, 1);
        x.ends(2);
        x.machine(0, 1, 0b10);
        // 9 - 3 as 8 - 2, and the other one gains 2 - 2 behind both.
        Due.is("weightFor(0): the other suffers by LOAD", x.weightFor(0), 8);
        x.set(2, 3, 1, 2);
        x.machine(0, 1, 65535);
        Due.is("weightFor(0) that never MAY: the least", x.weightFor(0), 1);
        Due.is("weightFor(3)", x.weightFor(3), -1);
        Due.is("weightFor(-1)", x.weightFor(-1), -1);
        x = new BenchTowels();
        x.set(4, 0, 1, 0);
        Due.rules(x, "set if weight > 6 wait; set if weight > 4 ease;");
        x.ends(1);
        // lift: 4 - 4 / 3 = 3; ease: (6 - 2) / 2 = 2.
        Due.is("weightFor(0) by rules", x.weightFor(0), 4);
        Due.rules(x, "set ease;");
        // (8 - 2) / 2 = 3 as (9 - 3) / 2 = 3; 7: (7 - 2) / 2 = 2.
        Due.is("of several the least", x.weightFor(0), 8);
        x.minute();
        Due.is("OVER: the least", x.weightFor(0), 1);
    }

    // Promise 18
    private static void machineFor() {
        BenchTowels x = new BenchTowels();
        x.set(4, 0, 9, 0);
        for (int m = 0; m < 6; m++) x.machine(m, 1, 65535);
        x.machine(4, 1, 0);
        Due.is("machineFor(0): the free one", x.machineFor(0), 4);
        Due.is("MACHINE stays", x.setOf(0, 1), 0);
        x.machine(5, 1, 0);
        Due.is("of several the least", x.machineFor(0), 4);
        x.machine(5, 0, 9);
        Due.is("machineFor(0): the one of the right LOAD", x.machineFor(0), 5);
        x.change(0, 4, 0);
        Due.is("none LEFT: the least", x.machineFor(0), 0);
        x.set(5, 4, 9, 1);
        Due.is("machineFor(1): one that is taken", x.machineFor(1), 0);
        Due.is("machineFor(2)", x.machineFor(2), -1);
        Due.is("machineFor(-1)", x.machineFor(-1), -1);
        x.ends(1);
        x.minute();
        Due.is("OVER: the least", x.machineFor(1), 0);
    }
}
