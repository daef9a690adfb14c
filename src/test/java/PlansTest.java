/** Promises 23 to 27: plans. */
public final class PlansTest {
    public static void main(String[] args) {
        best();
        ties();
        over();
        train();
        bars();
        wrong();
        Due.end("PlansTest");
    }

    // Set 0: 9 less 3 is 6 at first, TIRED 2 then; set 1: 5 (8 - 3), TIRED 1; other MUSCLES and MACHINES.
    private static BenchTowels two() {
        BenchTowels x = new BenchTowels();
        x.set(4, 0, 9, 0);
        x.set(2, 1, 9, 1);
        return x;
    }

    // Promises 23 and 24
    private static void best() {
        BenchTowels x = two();
        int[] most = {0, 6, 13, 19, 27};
        for (int n = 0; n <= 4; n++) Due.is("best(" + n + ")", x.best(n), most[n]);
        // 1 1 is 6 + 7, 1 2 is 6 + 5, 2 2 is 5 + 7.
        Due.is("ith(2, 0)", x.ith(2, 0), 1);
        Due.is("ith(2, 1)", x.ith(2, 1), 1);
        Due.is("ith(2, 2)", x.ith(2, 2), -3);
        Due.is("ith(0, 0)", x.ith(0, 0), -3);
        // 1 1 2 2 is 6 + 7 + 5 + 7; 1 2 1 2 is 6 + 5 + 8 + 8, 1 2 2 1 is 6 + 5 + 7 + 9, 2 1 2 1 is 5 + 6 + 8 + 8.
        Due.is("ways(4)", x.ways(4), 3);
        Due.is("ith(4, 0)", x.ith(4, 0), 1);
        Due.is("ith(4, 1)", x.ith(4, 1), 2);
        Due.is("ith(4, 2)", x.ith(4, 2), 1);
        Due.is("ith(4, 3)", x.ith(4, 3), 2);
        Due.is("nothing changed", x.state(0) + x.state(2) + x.setOf(0, 4) + x.setOf(1, 4) + x.machineOf(0, 0), 6);
    }

    // Promise 25
    private static void ties() {
        BenchTowels x = new BenchTowels();
        Due.is("no SETS", x.ways(4), 1);
        x.set(4, 0, 3, 0);
        x.set(4, 1, 3, 1);
        x.set(4, 2, 3, 2);
        Due.is("best(1)", x.best(1), 2);
        Due.is("three alike", x.ways(1), 3);
        Due.is("the first of them", x.ith(1, 0), 1);
        // Without rest 2 + 2 (3 less 2 TIRED, LOAD right: 1); of the three MUSCLES two: 6.
        Due.is("best(2)", x.best(2), 4);
        Due.is("ways(2)", x.ways(2), 6);
        Due.is("ith(2, 1)", x.ith(2, 1), 2);
        Due.is("ways(0)", x.ways(0), 1);
        for (int s = 0; s < 3; s++) x.change(s, 4, 0);
        Due.is("none LEFT: all", x.ways(3), 64);
        Due.is("none LEFT: the first", x.ith(3, 0) + x.ith(3, 1) + x.ith(3, 2), 0);
        Due.is("none LEFT", x.best(3), 0);
        for (int s = 3; s < 6; s++) {
            x.set(1, 0, 1, 0);
            x.change(s, 4, 0);
        }
        Due.is("all of them", x.ways(4), 2401);
    }

    private static void over() {
        BenchTowels x = two();
        x.ends(2);
        Due.is("fewer MINUTES", x.best(4), 13);
        Due.is("no third", x.ith(4, 2), -3);
        Due.is("ways", x.ways(4), 1);
        x.minute();
        Due.is("one", x.best(4), 7);
        Due.is("its ACT", x.ith(4, 0), 1);
        x.minute();
        Due.is("OVER", x.best(4), 0);
        Due.is("OVER", x.ways(4), 1);
        Due.is("OVER", x.ith(4, 0), -3);
        Due.is("OVER: train of none", x.train(4, 0), 0);
        Due.is("OVER: train", x.train(4, 1), -3);
        Due.is("OVER: bars", x.bars(4, 3), 0);
        Due.is("OVER: bars of none", x.bars(4, 0), -3);
    }

    // Promise 26
    private static void train() {
        BenchTowels x = two();
        Due.is("train of none", x.train(4, 0), 0);
        Due.is("train(0, 0)", x.train(0, 0), 0);
        Due.is("train(0, 1)", x.train(0, 1), -3);
        Due.is("train(1, 2)", x.train(1, 2), 1);
        Due.is("train(1, 3)", x.train(1, 3), -3);
        Due.is("train(2, 3)", x.train(2, 3), 2);
        Due.is("train(4, 3)", x.train(4, 3), 2);
        x.change(0, 4, 0);
        Due.is("none LEFT", x.train(4, 1), -3);
        x.change(0, 4, 3);
        Due.rules(x, "held if tired < 1 wait; shared if left > 2 lift; shared ease;");
        x.change(1, 3, 0);
        Due.is("one that only a TIRED MUSCLE does", x.train(4, 1), 2);
        Due.is("by the other", x.train(4, 2), 1);
        Due.is("two in one MINUTE", x.train(1, 1), -3);
        Due.rules(x, "held if tired < 2 wait;");
        Due.is("more ACTS than SETS", x.train(4, 1), 3);
        Due.is("more ACTS than SETS, both", x.train(4, 3), 3);
        Due.is("more ACTS than SETS in two MINUTES", x.train(2, 1), -3);
        Due.rules(x, "held if tired < 3 wait;");
        Due.is("four ACTS", x.train(4, 1), 4);
        Due.is("four ACTS in three MINUTES", x.train(3, 1), -3);
    }

    // Promise 27
    private static void bars() {
        BenchTowels x = two();
        x.set(5, 2, 5, 2);
        x.set(1, 3, 5, 2);
        Due.is("bars(4, 15)", x.bars(4, 15), 2);
        Due.is("bars(4, 11)", x.bars(4, 11), -3);
        Due.is("bars(1, 11)", x.bars(1, 11), 3);
        Due.is("bars(1, 3)", x.bars(1, 3), -3);
        Due.is("bars(0, 10)", x.bars(0, 10), 1);
        Due.is("bars(0, 0)", x.bars(0, 0), -3);
        x.machine(2, 1, 8);
        Due.is("taken in 3", x.bars(4, 15), -3);
        Due.is("taken in 3", x.bars(3, 15), 2);
        x.change(0, 4, 0);
        Due.is("the least", x.bars(3, 15), 0);
    }

    private static void wrong() {
        BenchTowels x = two();
        for (int n : new int[] {-1, 5, Integer.MAX_VALUE, Integer.MIN_VALUE}) {
            Due.is("best", x.best(n), -1);
            Due.is("ith", x.ith(n, 0), -1);
            Due.is("ways", x.ways(n), -1);
            Due.is("train", x.train(n, 0), -1);
            Due.is("bars", x.bars(n, 0), -1);
        }
        Due.is("ith(4, 4)", x.ith(4, 4), -1);
        Due.is("ith(4, -1)", x.ith(4, -1), -1);
        for (int sets : new int[] {4, -1, 7, Integer.MIN_VALUE}) {
            Due.is("train", x.train(2, sets), -1);
            Due.is("bars", x.bars(2, sets), -1);
        }
    }
}
