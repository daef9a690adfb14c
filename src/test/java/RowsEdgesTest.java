/** Promises 37 to 40, by the sentences of the document that name an edge. */
public final class RowsEdgesTest {
    public static void main(String[] args) {
        prove();
        proveAgain();
        row();
        alterRow();
        judge();
        judgeAct();
        judgeOver();
        Due.end("RowsEdgesTest");
    }

    /** One held SET of WEIGHT 9, LOAD 9, two of it LEFT; MINUTES ahead of END as many as told (0 to 16). */
    private static BenchTowels one(int minutes) {
        BenchTowels x = new BenchTowels();
        x.ends(16);
        for (int t = 0; t < 16 - minutes; t++) x.minute();
        x.set(4, 0, 9, 0);
        x.machine(0, 0, 9);
        x.change(0, 4, 2);
        return x;
    }

    private static BenchTowels proved(int minutes, int n) {
        BenchTowels x = one(minutes);
        x.prove(n);
        return x;
    }

    private static void prove() {
        Due.by(37, "ROWS of the FIRST of the BEST PLANS of n (0 to 4): how many.");
        Edges.bounds("prove(v)", Edges::busy, (x, v) -> x.prove(v), 0, 4, -1);
        Edges.bounds("prove(v) when it is OVER", Edges::over, (x, v) -> x.prove(v), 0, 4, -1);
        for (int n = 0; n <= 4; n++) {
            for (int minutes : new int[] {0, 1, 2, 3, 4, 5, 16}) {
                BenchTowels x = one(minutes);
                int due = Math.min(n, minutes);
                Due.is("prove(" + n + ") in " + minutes + " MINUTES", x.prove(n), due);
                Due.is("many(4)", x.many(4), due);
                Due.is("the last row", x.row(due - 1, 0) == -9 ? 1 : 0, due > 0 ? 0 : 1);
                Due.is("one behind it", x.row(due, 0), -9);
                Due.is("nothing went by: state(0)", x.state(0), 16 - minutes);
                Due.is("nothing went by: setOf(0, 4)", x.setOf(0, 4), 2);
            }
            BenchTowels x = new BenchTowels();
            Due.is("prove(" + n + ") without SETS", x.prove(n), n);
            for (int i = 0; i < n * 3; i++) Due.is("row(" + i / 3 + ", " + i % 3 + ") without SETS", x.row(i / 3, i % 3), 0);
        }
        Due.by(37, "for each MINUTE (ACT, what it is WORTH, SETS of which none is LEFT behind it, as a set)");
        // 0 0 0 1 would be 9; 0 1 0 1 and 1 0 1 0 and such 17, and 1 0 0 1, 9 + 9, is the best.
        int[][] rows = {{1, 9, 0}, {0, 0, 0}, {0, 0, 0}, {1, 9, 1}};
        BenchTowels x = proved(16, 4);
        for (int i = 0; i < 12; i++) Due.is("row(" + i / 3 + ", " + i % 3 + ")", x.row(i / 3, i % 3), rows[i / 3][i % 3]);
        x = new BenchTowels();
        for (int s = 0; s <= 5; s++) {
            x.set(4, s, 6, s % 3);
            x.change(s, 4, 0);
        }
        x.prove(1);
        Due.is("row(0, 2) when none is LEFT of six", x.row(0, 2), 63);
        x.change(5, 4, 1);
        x.prove(1);
        Due.is("row(0, 0) when 1 is LEFT of the last", x.row(0, 0), 6);
        Due.is("row(0, 2) behind it", x.row(0, 2), 63);
        x.change(5, 4, 2);
        x.prove(1);
        Due.is("row(0, 2) when 2 are LEFT of the last", x.row(0, 2), 31);
    }

    private static void proveAgain() {
        Due.by(37, "ROWS of the FIRST of the BEST PLANS of n (0 to 4): how many.");
        BenchTowels x = proved(16, 4);
        x.alterRow(0, 1, 1000);
        Due.is("prove(2) in place of four", x.prove(2), 2);
        Due.is("row(0, 1)", x.row(0, 1), 9);
        Due.is("row(2, 0)", x.row(2, 0), -9);
        Due.is("prove(5)", x.prove(5), -1);
        Due.is("many(4), which stay", x.many(4), 2);
        Due.is("prove(0)", x.prove(0), 0);
        Due.is("row(0, 0)", x.row(0, 0), -9);
        Due.is("prove(4)", x.prove(4), 4);
        Due.is("row(3, 2)", x.row(3, 2), 1);
    }

    private static void row() {
        Due.by(38, "-9: there is none such, another what.");
        for (int n = 1; n <= 4; n++) {
            int many = n;
            Edges.bounds("row(v, 0) of " + n, () -> proved(16, many), (x, v) -> x.row(v, 0), 0, n - 1, -9);
            for (int k = 0; k < n; k++) {
                int asked = k;
                Edges.bounds("row(" + k + ", v) of " + n, () -> proved(16, many), (x, v) -> x.row(asked, v), 0, 2, -9);
            }
        }
        for (int v : new int[] {-1, 0, 1, 3}) {
            Edges.still("row(" + v + ", 0) without ROWS", BenchTowels::new, x -> x.row(v, 0), -9);
            Edges.still("row(0, " + v + ") when it was OVER", () -> proved(0, 4), x -> x.row(0, v), -9);
        }
        Edges.still("row(4, 3)", () -> proved(16, 4), x -> x.row(4, 3), -9);
    }

    private static void alterRow() {
        Due.by(39, "It becomes v: what it was. -9 likewise.");
        for (int n = 1; n <= 4; n++) {
            int many = n;
            Edges.bounds("alterRow(v, 0, 1) of " + n, () -> proved(16, many), (x, v) -> x.alterRow(v, 0, 1), 0, n - 1, -9);
            Edges.bounds("alterRow(0, v, 1) of " + n, () -> proved(16, many), (x, v) -> x.alterRow(0, v, 1), 0, 2, -9);
        }
        Edges.still("alterRow(0, 0, 1) without ROWS", BenchTowels::new, x -> x.alterRow(0, 0, 1), -9);
        int[][] rows = {{1, 9, 0}, {0, 0, 0}, {0, 0, 0}, {1, 9, 1}};
        for (int at = 0; at < 12; at++) {
            BenchTowels x = proved(16, 4);
            int was = rows[at / 3][at % 3];
            for (int v : new int[] {Edges.MIN, Edges.MAX, -9, 0, 63}) {
                Due.is("alterRow(" + at / 3 + ", " + at % 3 + ", " + v + ")", x.alterRow(at / 3, at % 3, v), was);
                was = v;
                for (int i = 0; i < 12; i++) {
                    Due.is("row(" + i / 3 + ", " + i % 3 + ")", x.row(i / 3, i % 3), i == at ? v : rows[i / 3][i % 3]);
                }
            }
        }
    }

    private static void judge() {
        Due.by(40, "THE READER takes ROWS as such: 0 all is right; else the first ROW that isn't, and 1 more.");
        Edges.still("judge() without ROWS", BenchTowels::new, x -> x.judge(), 0);
        Edges.still("judge() without ROWS, OVER", () -> proved(0, 4), x -> x.judge(), 0);
        Edges.still("judge() in the MINUTE in which one ROW was altered", Edges::busy, x -> x.judge(), 2);
        for (int n = 1; n <= 4; n++) {
            int many = n;
            Edges.still("judge() of " + n, () -> proved(16, many), x -> x.judge(), 0);
            for (int k = 0; k < n; k++) {
                for (int what = 1; what <= 2; what++) {
                    for (int by : new int[] {1, -1}) {
                        BenchTowels x = proved(16, n);
                        x.alterRow(k, what, x.row(k, what) + by);
                        Due.is("judge() when " + by + " was put to row(" + k + ", " + what + ") of " + n, x.judge(), k + 1);
                        if (k + 1 < n) x.alterRow(k + 1, 1, 77);
                        Due.is("judge() when the next one isn't right either", x.judge(), k + 1);
                        x.alterRow(k, what, x.row(k, what) - by);
                        Due.is("judge() when just the next one isn't right", x.judge(), k + 1 < n ? k + 2 : 0);
                    }
                }
            }
        }
    }

    private static void judgeAct() {
        Due.by(40, "right is one whose ACT is one, if it isn't OVER, the others as they are then");
        for (int many = 0; many <= 6; many++) {
            BenchTowels x = new BenchTowels();
            for (int s = 0; s < many; s++) {
                x.set(4, s, 6, s % 3);
                x.change(s, 4, 0);
            }
            x.prove(1);
            for (int act : new int[] {0, many, -1, many + 1, 7, Edges.MIN, Edges.MAX, 256, 65536}) {
                x.alterRow(0, 0, act);
                Due.is("judge() by the ACT " + act + " of " + many + " SETS", x.judge(), act >= 0 && act <= many ? 0 : 1);
            }
        }
    }

    private static void judgeOver() {
        Due.by(40, "THE READER takes ROWS as a PLAN, from how it is now");
        for (int minutes = 0; minutes <= 4; minutes++) {
            BenchTowels x = proved(16, 0);
            for (int s = 0; s < 1; s++) x.change(s, 4, 0);
            x.prove(4);
            x.ends(Math.max(1, minutes));
            if (minutes == 0) x.minute();
            Due.is("judge() of four when " + minutes + " are left", x.judge(), minutes < 4 ? minutes + 1 : 0);
            Due.is("judge() when END is later", x.ends(16) >= 0 ? x.judge() : -1, 0);
        }
        BenchTowels x = proved(16, 4);
        x.tire(0, 1);
        Due.is("judge() when a MUSCLE is TIRED now", x.judge(), 1);
        x.tire(0, 0);
        x.machine(0, 0, 5);
        Due.is("judge() when the LOAD is another now", x.judge(), 1);
        x.machine(0, 0, 9);
        x.change(0, 4, 1);
        Due.is("judge() when 1 is LEFT now", x.judge(), 1);
        x.change(0, 4, 3);
        Due.is("judge() when 3 are LEFT now", x.judge(), 4);
        x.change(0, 4, 2);
        Due.is("judge() when all is as it was", x.judge(), 0);
    }
}
