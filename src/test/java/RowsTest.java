/** Promises 37 to 40: rows. */
public final class RowsTest {
    public static void main(String[] args) {
        prove();
        judge();
        judgeLater();
        Due.end("RowsTest");
    }

    private static BenchTowels gym() {
        BenchTowels x = new BenchTowels();
        x.set(4, 0, 9, 0);
        x.set(2, 1, 9, 1);
        x.change(0, 4, 1);
        return x;
    }

    // Promises 37 and 38
    private static void prove() {
        BenchTowels x = gym();
        Due.is("no ROWS", x.many(4), 0);
        Due.is("no ROWS: all is right", x.judge(), 0);
        Due.is("prove(3)", x.prove(3), 3);
        Due.is("many(4)", x.many(4), 3);
        // 6 once, 5 and 8 in either order with a MINUTE between: 2 1 2.
        int[][] rows = {{2, 5, 0}, {1, 6, 1}, {2, 8, 1}};
        for (int k = 0; k < 3; k++) {
            for (int what = 0; what < 3; what++) Due.is("row(" + k + ", " + what + ")", x.row(k, what), rows[k][what]);
        }
        Due.is("row(3, 0)", x.row(3, 0), -9);
        Due.is("row(-1, 0)", x.row(-1, 0), -9);
        Due.is("row(0, 3)", x.row(0, 3), -9);
        Due.is("row(0, -1)", x.row(0, -1), -9);
        Due.is("nothing goes by", x.state(0) + x.state(2) + x.setOf(0, 4), 1);
        Due.is("prove(-1)", x.prove(-1), -1);
        Due.is("prove(5)", x.prove(5), -1);
        Due.is("the ROWS stay", x.many(4), 3);
        Due.is("prove(1)", x.prove(1), 1);
        Due.is("row(0, 0)", x.row(0, 0), 1);
        Due.is("row(0, 2)", x.row(0, 2), 1);
        Due.is("row(1, 0)", x.row(1, 0), -9);
        Due.is("prove(0)", x.prove(0), 0);
        Due.is("many(4)", x.many(4), 0);
        x.ends(2);
        Due.is("prove(4): fewer", x.prove(4), 2);
        x.minute();
        x.minute();
        Due.is("prove(4): OVER", x.prove(4), 0);
    }

    // Promises 39 and 40
    private static void judge() {
        BenchTowels x = gym();
        Due.is("prove(3)", x.prove(3), 3);
        Due.is("as proved", x.judge(), 0);
        Due.is("alterRow(1, 1, 5)", x.alterRow(1, 1, 5), 6);
        Due.is("row(1, 1)", x.row(1, 1), 5);
        Due.is("WORTH", x.judge(), 2);
        Due.is("alterRow(1, 1, 6)", x.alterRow(1, 1, 6), 5);
        Due.is("alterRow(2, 2, 3)", x.alterRow(2, 2, 3), 1);
        Due.is("none LEFT", x.judge(), 3);
        Due.is("alterRow(0, 0, 1)", x.alterRow(0, 0, 1), 2);
        Due.is("another ACT", x.judge(), 1);
        x.alterRow(0, 1, 6);
        x.alterRow(0, 2, 1);
        // 1 is 6; then 1 again is 0, as none is LEFT.
        Due.is("the first is right now", x.judge(), 2);
        x.alterRow(1, 1, 0);
        Due.is("the second, too", x.judge(), 3);
        x.alterRow(2, 1, 5);
        x.alterRow(2, 2, 1);
        Due.is("another plan that is right", x.judge(), 0);
        x.alterRow(1, 0, 0);
        Due.is("ACT 0 is one", x.judge(), 0);
        Due.is("alterRow(1, 0, 3)", x.alterRow(1, 0, 3), 0);
        Due.is("no ACT", x.judge(), 2);
        x.alterRow(1, 0, -1);
        Due.is("no ACT", x.judge(), 2);
        x.alterRow(1, 0, Integer.MAX_VALUE);
        Due.is("no ACT", x.judge(), 2);
        x.alterRow(1, 0, Integer.MIN_VALUE);
        Due.is("no ACT", x.judge(), 2);
        Due.is("alterRow(3, 0, 0)", x.alterRow(3, 0, 0), -9);
        Due.is("alterRow(-1, 0, 0)", x.alterRow(-1, 0, 0), -9);
        Due.is("alterRow(0, 3, 0)", x.alterRow(0, 3, 0), -9);
        Due.is("alterRow(0, -1, 0)", x.alterRow(0, -1, 0), -9);
        Due.is("nothing goes by", x.state(0), 0);
    }

    private static void judgeLater() {
        BenchTowels x = gym();
        x.prove(3);
        x.tire(1, 1);
        Due.is("from how it is now", x.judge(), 1);
        x.tire(1, 0);
        Due.is("as it was", x.judge(), 0);
        x.ends(2);
        Due.is("OVER ahead of the third", x.judge(), 3);
        x.minute();
        x.minute();
        Due.is("OVER", x.judge(), 1);
        x = gym();
        x.prove(1);
        x.change(1, 4, 0);
        Due.is("none LEFT of another", x.judge(), 1);
    }
}
