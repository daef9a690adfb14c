/** Promises 14 to 18, by the sentences of the document that name an edge. */
public final class MinutesEdgesTest {
    public static void main(String[] args) {
        over();
        told();
        left();
        worth();
        third();
        tired();
        ease();
        waits();
        rest();
        score();
        on();
        when();
        weightFor();
        machineFor();
        Due.end("MinutesEdgesTest");
    }

    private static void over() {
        Due.by(14, "STATE: it is OVER.");
        Edges.still("minute() in MINUTE END", Edges::over, x -> x.minute(), -4);
        BenchTowels x = new BenchTowels();
        x.ends(16);
        for (int t = 0; t < 16; t++) {
            Due.is("minute() in " + t, x.minute(), 0);
            Due.is("MINUTE is 1 more", x.state(0), t + 1);
        }
        Due.is("minute() in 16", x.minute(), -4);
        Due.is("MINUTE stays", x.state(0), 16);
        x = new BenchTowels();
        x.ends(1);
        Due.is("minute() in 0, END 1", x.minute(), 0);
        Due.is("minute() in 1, END 1", x.minute(), -4);
        x.ends(2);
        Due.is("minute() in 1, END 2", x.minute(), 0);
        Due.is("minute() in 2, END 2", x.minute(), -4);
    }

    private static void told() {
        Due.by(14, "in each the least SET being told of which some is LEFT and that MAY in it (none, if there is none)");
        Edges.still("minute() of a new one, and back", BenchTowels::new, x -> x.minute() * 10 + x.anew(), 1);
        for (int s = 0; s <= 5; s++) {
            BenchTowels x = six();
            for (int i = 0; i < s; i++) x.change(i, 4, 0);
            Due.is("minute() when none is LEFT of those below " + s, x.minute(), 9 - s - (9 - s) / 3);
            for (int i = 0; i <= 5; i++) Due.is("LEFT of " + i, x.setOf(i, 4), i < s ? 0 : i == s ? 2 : 3);
            x = six();
            for (int i = 0; i < s; i++) x.machine(i, 1, 1);
            x.minute();
            for (int i = 0; i <= 5; i++) Due.is("LEFT of " + i + ", those below " + s + " MAY not", x.setOf(i, 4), i == s ? 2 : 3);
        }
        BenchTowels x = six();
        for (int i = 0; i <= 5; i++) x.change(i, 4, 0);
        Due.is("minute() when none is LEFT of all", x.minute(), 0);
        x = six();
        for (int m = 0; m <= 5; m++) x.machine(m, 1, 1);
        Due.is("minute() when none MAY", x.minute(), 0);
        for (int i = 0; i <= 5; i++) Due.is("LEFT of " + i + " when none MAY", x.setOf(i, 4), 3);
    }

    /** Six held SETS, WEIGHTS 9 to 4, MACHINES 0 to 5. */
    private static BenchTowels six() {
        BenchTowels x = new BenchTowels();
        for (int s = 0; s <= 5; s++) x.set(4, s, 9 - s, s % 3);
        return x;
    }

    /** One SET at MACHINE 3 for MUSCLE 1, MINUTE 1. */
    private static BenchTowels one(int kind, int weight, int load, int tired) {
        BenchTowels x = new BenchTowels();
        x.set(kind, 3, weight, 1);
        x.change(0, 4, 0);
        x.minute();
        x.change(0, 4, 3);
        x.machine(3, 0, load);
        if (kind == 5) x.machine(3, 1, 0xffff);
        x.tire(1, tired);
        return x;
    }

    private static void left() {
        Due.by(14, "1 less is LEFT, LOAD is its WEIGHT.");
        for (int many : new int[] {1, 2, 9}) {
            BenchTowels x = one(4, 9, 0, 0);
            x.change(0, 4, many);
            Due.is("minute() when " + many + " are LEFT", x.minute(), 6);
            Due.is("setOf(0, 4)", x.setOf(0, 4), many - 1);
            Due.is("machineOf(3, 0)", x.machineOf(3, 0), 9);
        }
        Due.by(14, "If a SET is told, some of it is LEFT, and it MAY, it is done as its WILL is");
        BenchTowels x = one(4, 9, 0, 0);
        x.change(0, 4, 0);
        Due.is("minute() when none is LEFT", x.minute(), 0);
        Due.is("setOf(0, 4)", x.setOf(0, 4), 0);
        Due.is("machineOf(3, 0)", x.machineOf(3, 0), 0);
        Due.is("state(6)", x.state(6), 0);
        x = one(4, 1, 9, 0);
        x.minute();
        Due.is("machineOf(3, 0) behind WEIGHT 1", x.machineOf(3, 0), 1);
    }

    private static void worth() {
        Due.by(14, "0 at least; then its MUSCLE is as much more TIRED");
        int[] due = {5, 4, 3, 2, 1, 0, 0, 0, 0, 0};
        for (int tired = 0; tired <= 9; tired++) {
            BenchTowels x = one(4, 5, 5, tired);
            Due.is("minute(), GAINS 5, TIRED " + tired, x.minute(), due[tired]);
            Due.is("SCORE", x.state(2), due[tired]);
        }
        Due.is("the least: shared of WEIGHT 1, TIRED 9, LOAD 9", one(2, 1, 9, 9).minute(), 0);
        Due.is("the most: unasked of WEIGHT 9, LOAD 9", one(5, 9, 9, 0).minute(), 18);
    }

    private static void third() {
        Due.by(14, "less a third (cut) of how far the LOAD of its MACHINE is from its WEIGHT");
        int[] due = {6, 7, 7, 7, 8, 8, 8, 9, 9, 9};
        for (int load = 0; load <= 9; load++) Due.is("minute(), WEIGHT 9, LOAD " + load, one(4, 9, load, 0).minute(), due[load]);
        int[] light = {4, 4, 4, 4, 4, 3, 3, 3, 2, 2};
        for (int load = 0; load <= 9; load++) Due.is("minute(), WEIGHT 2, LOAD " + load, one(5, 2, load, 0).minute(), light[load]);
        Due.by(14, "Quotients are cut towards 0.");
        Due.is("minute(), WEIGHT 1, LOAD 9: 8 / 3", one(1, 1, 9, 0).minute(), 1);
    }

    private static void tired() {
        Due.by(14, "then its MUSCLE is as much more TIRED as it TIRES (held)");
        int[] tires = {3, 1, 1, 2, 3};
        for (int kind = 1; kind <= 5; kind++) {
            for (int tired = 0; tired <= 9; tired++) {
                BenchTowels x = one(kind, 5, 5, tired);
                x.minute();
                Due.is("TIRED behind KIND " + kind + ", " + tired + " ahead", x.state(6), Math.min(9, tired + tires[kind - 1]));
                x = one(kind, 5, 5, tired);
                Due.rules(x, "set ease;");
                x.minute();
                Due.is("TIRED behind KIND " + kind + " by ease, " + tired + " ahead", x.state(6), Math.min(9, tired + 1));
            }
        }
    }

    private static void ease() {
        Due.by(14, "ease: likewise, but WORTH half of that (cut), and its MUSCLE 1 more TIRED.");
        int[] due = {4, 4, 3, 3, 2, 2, 1, 1, 0, 0};
        for (int tired = 0; tired <= 9; tired++) {
            BenchTowels x = one(4, 9, 9, tired);
            Due.rules(x, "set ease;");
            Due.is("minute() by ease, GAINS 9, TIRED " + tired, x.minute(), due[tired]);
            Due.is("SCORE", x.state(2), due[tired]);
            Due.is("LEFT", x.setOf(0, 4), 2);
        }
        BenchTowels x = one(4, 2, 9, 9);
        Due.rules(x, "set ease;");
        Due.is("minute() by ease, far below 0", x.minute(), 0);
        Due.is("LOAD is its WEIGHT", x.machineOf(3, 0), 2);
        x = one(5, 9, 9, 1);
        Due.rules(x, "set ease;");
        Due.is("minute() by ease, 17", x.minute(), 8);
    }

    private static void waits() {
        Due.by(14, "wait: nothing.");
        BenchTowels x = one(4, 9, 2, 5);
        Due.rules(x, "set wait;");
        Due.is("minute() by wait", x.minute(), 0);
        Due.is("LEFT", x.setOf(0, 4), 3);
        Due.is("LOAD", x.machineOf(3, 0), 2);
        Due.is("SCORE", x.state(2), 0);
        Due.is("MINUTE is 1 more", x.state(0), 2);
        Due.is("its MUSCLE isn't more TIRED", x.state(6) > 5 ? 1 : 0, 0);
    }

    private static void rest() {
        Due.by(14, "Each MUSCLE of which no SET was done is 1 less TIRED (0 at least).");
        for (int tired = 0; tired <= 9; tired++) {
            BenchTowels x = one(4, 9, 9, 0);
            x.tire(0, tired);
            x.tire(2, 9 - tired);
            x.minute();
            Due.is("MUSCLE 0, TIRED " + tired, x.state(5), Math.max(0, tired - 1));
            Due.is("MUSCLE 2, TIRED " + (9 - tired), x.state(7), Math.max(0, 8 - tired));
            Due.is("MUSCLE 1, of which one was done", x.state(6), 2);
        }
        for (int muscle = 0; muscle <= 2; muscle++) {
            BenchTowels x = new BenchTowels();
            x.set(4, 0, 9, muscle);
            for (int i = 0; i <= 2; i++) x.tire(i, 4);
            x.minute();
            for (int i = 0; i <= 2; i++) Due.is("MUSCLE " + i + ", one of " + muscle + " was done", x.state(5 + i), i == muscle ? 6 : 3);
            x.change(0, 4, 0);
            x.minute();
            for (int i = 0; i <= 2; i++) Due.is("MUSCLE " + i + ", none was done", x.state(5 + i), i == muscle ? 5 : 2);
        }
    }

    private static void score() {
        Due.by(14, "SCORE: what MINUTES were WORTH");
        BenchTowels x = new BenchTowels();
        x.set(5, 0, 9, 0);
        x.change(0, 4, 9);
        x.machine(0, 1, 0xffff);
        // 18 less 3, then TIRED 3, 6, 9, 9, .. by MINUTES one behind the other.
        int[] due = {15, 15, 12, 9, 9, 9, 9, 9, 9, 0};
        int sum = 0;
        for (int t = 0; t < 10; t++) {
            Due.is("minute() in " + t, x.minute(), due[t]);
            sum += due[t];
            Due.is("state(2)", x.state(2), sum);
        }
    }

    private static void on() {
        Due.by(15, "What n (0 to 16) MINUTES of THE REST (fewer, if it is OVER) are WORTH.");
        Edges.bounds("on(v)", Edges::busy, (x, v) -> x.on(v), 0, 16, -1);
        int[] due = new int[17];
        BenchTowels x = new BenchTowels();
        x.set(3, 0, 9, 0);
        x.change(0, 4, 9);
        x.ends(16);
        // 11 - 3, 8 - 1, 11 - 2, 8 - 3, 11 - 4, 8 - 5, 11 - 6, 8 - 7, 11 - 8; then none is LEFT.
        int[] worth = {8, 7, 9, 5, 7, 3, 5, 1, 3, 0, 0, 0, 0, 0, 0, 0};
        for (int n = 0; n <= 16; n++) {
            due[n] = n == 0 ? 0 : due[n - 1] + worth[n - 1];
            Due.is("on(" + n + ")", x.on(n), due[n]);
        }
        for (int end = 1; end <= 16; end++) {
            x.ends(end);
            Due.is("on(16) with END " + end, x.on(16), due[end]);
            Due.is("on(1) with END " + end, x.on(1), due[1]);
        }
        x = new BenchTowels();
        x.ends(16);
        for (int t = 0; t < 15; t++) x.minute();
        x.set(4, 0, 9, 0);
        Due.is("on(16) in MINUTE 15", x.on(16), 6);
        Due.is("on(1) in MINUTE 15", x.on(1), 6);
        Due.is("on(0) in MINUTE 15", x.on(0), 0);
        x.minute();
        Due.is("on(16) in MINUTE 16", x.on(16), 0);
        Edges.still("on(16) when it is OVER", Edges::over, y -> y.on(16), 0);
        Edges.still("on(17) when it is OVER", Edges::over, y -> y.on(17), -1);
        Edges.still("on(-1) when it is OVER", Edges::over, y -> y.on(-1), -1);
    }

    /** One unasked SET at a MACHINE that is TAKEN in one MINUTE. */
    private static BenchTowels onceIn(int minute, int end) {
        BenchTowels x = new BenchTowels();
        x.set(5, 5, 5, 0);
        x.machine(5, 1, 1 << minute);
        x.ends(end);
        return x;
    }

    private static void when() {
        Due.by(16, "The first MINUTE of THE REST in which a SET is done. BAD; NONE.");
        Edges.bounds("when(v) of five SETS", Edges::busy, (x, v) -> x.when(v), 0, 4, -1);
        Edges.bounds("when(v) of six SETS", Edges::full, (x, v) -> x.when(v), 0, 5, -1);
        Edges.bounds("when(v) of five SETS, OVER", Edges::over, (x, v) -> x.when(v), 0, 4, -1);
        for (int t = 0; t <= 15; t++) {
            Due.is("when(0), it MAY in " + t + ", END 16", onceIn(t, 16).when(0), t);
            Due.is("when(0), it MAY in " + t + ", END " + (t + 1), onceIn(t, t + 1).when(0), t);
            if (t > 0) Due.is("when(0), it MAY in " + t + ", END " + t, onceIn(t, t).when(0), -3);
        }
        BenchTowels x = onceIn(1, 16);
        x.minute();
        Due.is("when(0) in the MINUTE in which it MAY", x.when(0), 1);
        x.change(0, 4, 0);
        x.minute();
        x.change(0, 4, 1);
        Due.is("when(0) behind the MINUTE in which it MAY", x.when(0), -3);
        Edges.still("when(0) when it is OVER", Edges::over, y -> y.when(0), -3);
        Edges.still("when(2) of which none is LEFT", Edges::busy, y -> y.when(2), -3);
        Due.by(16, "from END on it is OVER");
        Due.is("when(0) when it is done in the last MINUTE ahead of END", onceIn(11, 12).when(0), 11);
    }

    private static void weightFor() {
        Due.by(17, "WEIGHT with which a SET makes THE REST WORTH most; of several the least.");
        Edges.bounds("weightFor(v) of five SETS", Edges::busy, (x, v) -> x.weightFor(v), 0, 4, -1);
        Edges.bounds("weightFor(v) of six SETS", Edges::full, (x, v) -> x.weightFor(v), 0, 5, -1);
        for (int w = 1; w <= 9; w++) {
            BenchTowels x = new BenchTowels();
            x.set(4, 0, 5, 0);
            x.machine(0, 0, w);
            Due.rules(x, "set if weight < " + w + " wait; set if weight > " + w + " wait;");
            Due.is("weightFor(0) when all but " + w + " wait", x.weightFor(0), w);
            Due.is("setOf(0, 2) then", x.setOf(0, 2), 5);
        }
        BenchTowels x = new BenchTowels();
        x.set(4, 0, 5, 0);
        x.machine(0, 0, 9);
        Due.is("weightFor(0), LOAD 9", x.weightFor(0), 9);
        x.tire(0, 9);
        x.ends(1);
        Due.is("weightFor(0) when all are WORTH 0", x.weightFor(0), 1);
        x.tire(0, 0);
        x.machine(0, 0, 0);
        Due.rules(x, "set ease;");
        // 8 - 2 and 9 - 3, half of them; 7 - 2 gives 2.
        Due.is("weightFor(0) when 8 and 9 are WORTH as much", x.weightFor(0), 8);
        Due.by(17, "THE REST: all MINUTES yet");
        for (int t = 0; t <= 15; t++) {
            x = onceIn(t, 16);
            Due.is("weightFor(0), it MAY in " + t + " alone", x.weightFor(0), 9);
            if (t > 0) x.ends(t);
            Due.is("weightFor(0), it MAY in " + t + " alone, END " + t, x.weightFor(0), t > 0 ? 1 : 9);
        }
        Edges.still("weightFor(0) when it is OVER", Edges::over, y -> y.weightFor(0), 1);
        Edges.still("weightFor(5) when it is OVER", Edges::over, y -> y.weightFor(5), -1);
    }

    private static void machineFor() {
        Due.by(18, "MACHINE likewise.");
        Edges.bounds("machineFor(v) of five SETS", Edges::busy, (x, v) -> x.machineFor(v), 0, 4, -1);
        Edges.bounds("machineFor(v) of six SETS", Edges::full, (x, v) -> x.machineFor(v), 0, 5, -1);
        for (int m = 0; m <= 5; m++) {
            BenchTowels x = new BenchTowels();
            x.set(4, (m + 1) % 6, 9, 0);
            x.machine(m, 0, 9);
            Due.is("machineFor(0), LOAD 9 at " + m, x.machineFor(0), m);
            Due.is("setOf(0, 1) then", x.setOf(0, 1), (m + 1) % 6);
            for (int i = m + 1; i <= 5; i++) x.machine(i, 0, 9);
            Due.is("machineFor(0), LOAD 9 at " + m + " and all behind it", x.machineFor(0), m);
            x.change(0, 4, 0);
            Due.is("machineFor(0) when none is LEFT", x.machineFor(0), 0);
        }
        Due.by(18, "THE REST: all MINUTES yet");
        for (int t = 0; t <= 15; t++) {
            BenchTowels x = onceIn(t, 16);
            Due.is("machineFor(0), it MAY in " + t + " alone", x.machineFor(0), 5);
            if (t > 0) x.ends(t);
            Due.is("machineFor(0), it MAY in " + t + " alone, END " + t, x.machineFor(0), t > 0 ? 0 : 5);
        }
        Edges.still("machineFor(0) when it is OVER", Edges::over, x -> x.machineFor(0), 0);
        Edges.still("machineFor(5) when it is OVER", Edges::over, x -> x.machineFor(5), -1);
    }
}
