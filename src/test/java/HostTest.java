/** Promises 41 to 50: the host. */
public final class HostTest {
    public static void main(String[] args) {
        sheet();
        write();
        item();
        goAll();
        wouldBe();
        shelf();
        shelvedRows();
        taken();
        acts();
        partedByZero();
        nothingActs();
        many();
        Due.end("HostTest");
    }

    // Promise 41
    private static void sheet() {
        BenchTowels x = new BenchTowels();
        Due.is("sheet(0, 2, 40)", x.sheet(0, 2, 40), 1);
        Due.is("all 0", x.item(0, 2, 39), 0);
        Due.is("no 41st", x.item(0, 2, 40), -12);
        Due.is("sheet(0, 2, 41)", x.sheet(0, 2, 41), -1);
        Due.is("sheet(0, 2, -1)", x.sheet(0, 2, -1), -14);
        Due.is("sheet(0, 2, MIN)", x.sheet(0, 2, Integer.MIN_VALUE), -14);
        Due.is("sheet(4, 0, 1)", x.sheet(4, 0, 1), -1);
        Due.is("sheet(-1, 0, 1)", x.sheet(-1, 0, 1), -1);
        Due.is("sheet(0, 5, 1)", x.sheet(0, 5, 1), -1);
        Due.is("sheet(0, -2, 1)", x.sheet(0, -2, 1), -1);
        Due.is("the first named", x.sheet(4, 0, -1), -1);
        Due.is("the first named", x.sheet(0, 5, -1), -1);
        Due.is("it stays", x.item(0, 2, 39), 0);
        for (int i = 0; i < 40; i++) x.write(0, i, 7);
        Due.is("sheet(0, 3, 40)", x.sheet(0, 3, 40), 1);
        for (int i = 0; i < 40; i++) Due.is("all 0 again", x.item(0, 3, i), 0);
        Due.is("sheet(0, 2, 5)", x.sheet(0, 2, 5), 1);
        Due.is("no sixth", x.item(0, 2, 5), -12);
        Due.is("missing; n counts nothing", x.sheet(0, -1, 41), 1);
        Due.is("missing", x.item(0, 2, 0), -11);
        Due.is("missing; n counts nothing", x.sheet(0, -1, -1), 1);
        Due.is("sheet(3, 4, 0)", x.sheet(3, 4, 0), 1);
        Due.is("of none", x.item(3, 4, 0), -12);
    }

    // Promise 42
    private static void write() {
        BenchTowels x = new BenchTowels();
        int[] v = {300, 128, -129, 70000, 32768, Integer.MIN_VALUE, Integer.MAX_VALUE, 0, -1};
        for (int sort = 0; sort <= 4; sort++) {
            x.sheet(1, sort, 9);
            for (int i = 0; i < 9; i++) Due.is("write", x.write(1, i, v[i]), 1);
            for (int i = 0; i < 9; i++) {
                int[] due = {(byte) v[i], (short) v[i], v[i], v[i], v[i] != 0 ? 1 : 0};
                Due.is("sort " + sort + ", " + v[i], x.item(1, sort, i), due[sort]);
            }
            Due.is("write(1, 9, 0)", x.write(1, 9, 0), -12);
            Due.is("write(1, -1, 0)", x.write(1, -1, 0), -12);
            Due.is("write(1, MAX, 0)", x.write(1, Integer.MAX_VALUE, 0), -12);
        }
        Due.is("missing", x.write(0, 0, 0), -11);
        Due.is("missing: the first named", x.write(0, -1, 0), -11);
        Due.is("write(4, 0, 0)", x.write(4, 0, 0), -1);
        Due.is("write(-1, 0, 0)", x.write(-1, 0, 0), -1);
    }

    // Promise 43
    private static void item() {
        BenchTowels x = new BenchTowels();
        x.sheet(0, 1, 3);
        x.write(0, 2, -12);
        Due.is("as low as these", x.item(0, 1, 2), -12);
        Due.is("item(0, 1, 3)", x.item(0, 1, 3), -12);
        Due.is("item(0, 1, -1)", x.item(0, 1, -1), -12);
        for (int sort = 0; sort <= 4; sort++) {
            if (sort != 1) Due.is("shorts taken for " + sort, x.item(0, sort, 0), -13);
            Due.is("missing", x.item(1, sort, 0), -11);
        }
        Due.is("of another sort: the first named", x.item(0, 0, 9), -13);
        Due.is("item(4, 0, 0)", x.item(4, 0, 0), -1);
        Due.is("item(-1, 0, 0)", x.item(-1, 0, 0), -1);
        Due.is("item(0, 5, 0)", x.item(0, 5, 0), -1);
        Due.is("item(0, -1, 0)", x.item(0, -1, 0), -1);
    }

    private static BenchTowels gymWithActs(int... acts) {
        BenchTowels x = new BenchTowels();
        x.set(4, 0, 9, 0);
        x.set(2, 1, 9, 1);
        x.sheet(2, 0, acts.length);
        for (int i = 0; i < acts.length; i++) x.write(2, i, acts[i]);
        return x;
    }

    // Promise 44
    private static void goAll() {
        BenchTowels x = gymWithActs(1, 0, 3, -1, 2, 1);
        Due.is("goAll(2, 0, 0)", x.goAll(2, 0, 0), 0);
        Due.is("goAll(2, 9, 0)", x.goAll(2, 9, 0), 0);
        Due.is("MINUTE", x.state(0), 0);
        Due.is("goAll(2, 0, 5): 3 and -1 are left out", x.goAll(2, 0, 5), 11);
        Due.is("MINUTE", x.state(0), 3);
        Due.is("SCORE", x.state(2), 11);
        Due.is("goAll(2, 5, 2)", x.goAll(2, 5, 2), -12);
        Due.is("what stood ahead was done", x.state(0), 4);
        Due.is("what stood ahead was done", x.state(2), 20);
        Due.is("goAll(2, -1, 2)", x.goAll(2, -1, 2), -12);
        Due.is("goAll(2, 6, 1)", x.goAll(2, 6, 1), -12);
        Due.is("goAll(2, MAX, 2)", x.goAll(2, Integer.MAX_VALUE, 2), -12);
        Due.is("nothing done", x.state(0), 4);
        x.ends(5);
        Due.is("OVER: left out", x.goAll(2, 4, 2), 8);
        Due.is("MINUTE", x.state(0), 5);
        Due.is("LEFT", x.setOf(0, 4), 1);
        Due.is("OVER: all left out", x.goAll(2, 0, 6), 0);
        Due.is("goAll(4, 0, 1)", x.goAll(4, 0, 1), -1);
        Due.is("goAll(-1, 0, 1)", x.goAll(-1, 0, 1), -1);
        Due.is("goAll(2, 0, 21)", x.goAll(2, 0, 21), -1);
        Due.is("goAll(2, 0, -1)", x.goAll(2, 0, -1), -1);
        x.sheet(1, 2, 5);
        Due.is("ints", x.goAll(1, 0, 1), -13);
        Due.is("ints: the first named", x.goAll(1, 9, 1), -13);
        Due.is("missing", x.goAll(0, 0, 1), -11);
        x = gymWithActs(1, 2, 1, 2, 0, 0, 0, 0, 0, 0, 0, 0, 1, 1, 1, 1, 1, 1, 1, 2);
        x.ends(16);
        Due.is("20 items", x.goAll(2, 0, 20), 27 + 9);
        Due.is("MINUTE", x.state(0), 16);
    }

    // Promise 45
    private static void wouldBe() {
        BenchTowels x = gymWithActs(1, 0, 2, 3, -1, 1);
        Due.is("wouldBe(2, 0, 0)", x.wouldBe(2, 0, 0), 0);
        Due.is("wouldBe(2, 0, 1)", x.wouldBe(2, 0, 1), 6);
        Due.is("wouldBe(2, 0, 3)", x.wouldBe(2, 0, 3), 11);
        Due.is("no ACT", x.wouldBe(2, 0, 4), -4);
        Due.is("no ACT", x.wouldBe(2, 4, 1), -4);
        Due.is("outside", x.wouldBe(2, 5, 2), -12);
        Due.is("outside", x.wouldBe(2, -1, 2), -12);
        Due.is("by items: no ACT ahead of outside", x.wouldBe(2, 4, 9), -4);
        Due.is("outside", x.wouldBe(2, Integer.MAX_VALUE, 2), -12);
        x.ends(2);
        x.sheet(1, 0, 21);
        x.ends(16);
        Due.is("20 are too many MINUTES", x.wouldBe(1, 0, 20), -4);
        Due.is("16 MINUTES", x.wouldBe(1, 5, 16), 0);
        x.ends(2);
        Due.is("just till it's OVER", x.wouldBe(2, 1, 2), 5);
        Due.is("OVER ahead of the third", x.wouldBe(2, 0, 3), -4);
        Due.is("OVER ahead, but outside first", x.wouldBe(2, 6, 1), -12);
        Due.is("nothing changed", x.state(0) + x.state(2) + x.setOf(0, 4) + x.state(5), 3);
        Due.is("wouldBe(4, 0, 1)", x.wouldBe(4, 0, 1), -1);
        Due.is("wouldBe(-1, 0, 1)", x.wouldBe(-1, 0, 1), -1);
        Due.is("wouldBe(2, 0, 21)", x.wouldBe(2, 0, 21), -1);
        Due.is("wouldBe(2, 0, -1)", x.wouldBe(2, 0, -1), -1);
        x.sheet(1, 4, 5);
        Due.is("booleans", x.wouldBe(1, 0, 1), -13);
        Due.is("missing", x.wouldBe(0, 0, 1), -11);
    }

    // Promise 46
    private static void shelf() {
        BenchTowels x = Due.ofEachKind(5);
        Due.is("shelf(0, 0, 4)", x.shelf(0, 0, 4), 1);
        Due.is("it holds", x.taken(0, 0), 4);
        int[][] bad = {{4, 0, 0}, {-1, 0, 0}, {0, 3, 0}, {0, -1, 0}, {0, 0, 5}, {0, 0, -1}, {0, 1, 4}, {0, 1, -1}};
        for (int[] b : bad) Due.is("wrong shelf", x.shelf(b[0], b[1], b[2]), -1);
        Due.is("it holds as before", x.taken(0, 0), 4);
        Due.is("nothing", x.shelf(0, 2, 0), 1);
        Due.is("it holds nothing", x.taken(0, 0), -11);
        x.shelf(0, 0, 1);
        Due.is("nothing, whatever n is", x.shelf(0, 2, 99), 1);
        Due.is("it holds nothing", x.taken(0, 0), -11);
        x.shelf(0, 0, 1);
        Due.is("a missing row", x.shelf(0, 1, 3), 1);
        Due.is("is nothing", x.taken(0, 0), -11);
        x.shelf(3, 0, 2);
        Due.is("others", x.taken(3, 0), 2);
        // A SET by its number: what again() brings back has fewer.
        x = new BenchTowels();
        x.set(1, 0, 1, 0);
        x.keep();
        x.set(4, 0, 1, 0);
        x.shelf(0, 0, 1);
        x.shelf(1, 0, 0);
        x.again();
        Due.is("there is no such one at the time", x.taken(0, 0), -11);
        Due.is("act", x.act(0, 0, 5), 0);
        Due.is("that one is", x.taken(1, 0), 0);
        x.set(3, 0, 2, 0);
        Due.is("there is one again", x.taken(0, 3), 1);
        Due.is("its act", x.act(0, 0, 5), 10);
    }

    private static void shelvedRows() {
        BenchTowels x = new BenchTowels();
        for (int sort = 0; sort <= 4; sort++) {
            x.sheet(1, sort, sort + 3);
            x.shelf(2, 1, 1);
            for (int as = 10; as <= 14; as++) {
                Due.is("row of " + sort + " as " + as, x.taken(2, as), as - 10 == sort ? sort + 3 : -13);
            }
            for (int as = 0; as <= 5; as++) Due.is("row as " + as, x.taken(2, as), -13);
        }
        x.sheet(1, 0, 40);
        Due.is("the row stays, when the SHEET is another", x.taken(2, 14), 7);
        x.sheet(1, -1, 0);
        Due.is("the row stays, when the SHEET is missing", x.taken(2, 14), 7);
        x.sheet(1, 0, 0);
        x.shelf(2, 1, 1);
        Due.is("of none", x.taken(2, 10), 0);
    }

    // Promise 47
    private static void taken() {
        BenchTowels x = Due.ofEachKind(5);
        String[] is = {"110000", "101000", "101100", "100010", "100011"};
        for (int s = 0; s < 5; s++) {
            x.shelf(1, 0, s);
            for (int as = 0; as <= 5; as++) {
                Due.is("KIND " + (s + 1) + " as " + as, x.taken(1, as), is[s].charAt(as) == '1' ? s : -13);
            }
            for (int as = 10; as <= 14; as++) Due.is("a SET as a row", x.taken(1, as), -13);
        }
        x.remake(4, 1);
        Due.is("of its KIND now", x.taken(1, 1), 4);
        Due.is("of its KIND now", x.taken(1, 4), -13);
        for (int as : new int[] {0, 5, 10, 14}) Due.is("nothing", x.taken(0, as), -11);
        for (int as : new int[] {-1, 6, 9, 15, Integer.MAX_VALUE}) Due.is("no such as", x.taken(0, as), -1);
        Due.is("taken(4, 0)", x.taken(4, 0), -1);
        Due.is("taken(-1, 0)", x.taken(-1, 0), -1);
    }

    private static void acted(BenchTowels x, String what, int act, int by, int due, int... bodies) {
        Due.is(what, x.act(0, act, by), due);
        Due.is(what + ": many(6)", x.many(6), bodies.length);
        for (int i = 0; i < bodies.length; i++) Due.is(what + ": trace(" + i + ")", x.trace(i), bodies[i]);
        Due.is(what + ": no more", x.trace(bodies.length), -3);
        Due.is(what + ": none ahead", x.trace(-1), -3);
    }

    // Promises 48 and 49: alone 0, shared 1, paired 2, held 3, unasked 4, all of WEIGHT 7.
    private static void acts() {
        BenchTowels x = Due.ofEachKind(7);
        x.shelf(0, 0, 0);
        acted(x, "alone lifts", 0, 3, -17, 20, 10);
        acted(x, "alone groans", 1, 3, -17, 11, 20, 10);
        acted(x, "alone parts", 2, -20, -2, 12);
        acted(x, "alone wipes", 3, 3, -17, 13, 11, 20, 10, 12);
        x.shelf(0, 0, 1);
        acted(x, "shared lifts", 0, 3, 17, 10);
        acted(x, "shared groans", 1, 3, 48, 30, 11, 10);
        acted(x, "shared parts", 2, 20, 3, 12);
        acted(x, "shared wipes", 3, 13, 76, 13, 30, 11, 10, 12);
        x.shelf(0, 0, 2);
        acted(x, "paired lifts", 0, 3, 19, 50, 10);
        acted(x, "paired groans", 1, 3, (19 ^ 2) * 3, 30, 11, 50, 10);
        acted(x, "paired parts", 2, -19, -3, 12);
        int inner = (19 ^ 2) * 3 - 0;
        acted(x, "paired wipes", 3, 3, inner ^ (18 ^ 2) * 3, 51, 13, 30, 11, 50, 10, 12, 30, 11, 50, 10);
        x.shelf(0, 0, 3);
        acted(x, "held lifts", 0, 3, 17, 10);
        acted(x, "held groans", 1, 3, 18, 11, 10);
        acted(x, "held parts", 2, 21, 5 ^ 7, 40, 12);
        acted(x, "held wipes", 3, 21, (35 ^ 3) - (5 ^ 7), 13, 11, 10, 40, 12);
        x.shelf(0, 0, 4);
        acted(x, "unasked lifts", 0, 3, 17, 10);
        acted(x, "unasked groans", 1, 3, 21 ^ 4, 60, 11, 10);
        acted(x, "unasked parts", 2, 14, (4 ^ 7) * 15, 61, 40, 12, 10);
        acted(x, "unasked wipes", 3, 14, (32 ^ 4) - (4 ^ 7) * 15, 13, 60, 11, 10, 61, 40, 12, 10);
        acted(x, "it wraps", 0, Integer.MAX_VALUE, Integer.MIN_VALUE + 13, 10);
        x.change(4, 2, 3);
        acted(x, "by -1", 2, Integer.MIN_VALUE, (Integer.MIN_VALUE ^ 3) * 7, 61, 40, 12, 10);
    }

    // Promise 48: -15
    private static void partedByZero() {
        BenchTowels x = Due.ofEachKind(7);
        for (int s = 1; s < 5; s++) x.change(s, 2, s);
        x.shelf(0, 0, 1);
        acted(x, "shared parts", 2, 5, -15, 12);
        acted(x, "shared wipes", 3, 5, -15, 13, 30, 11, 10, 12);
        acted(x, "shared groans", 1, 5, 18, 30, 11, 10);
        x.shelf(0, 0, 2);
        acted(x, "paired wipes", 3, 5, -15, 51, 13, 30, 11, 50, 10, 12);
        x.shelf(0, 0, 3);
        acted(x, "held parts", 2, 5, -15, 40, 12);
        x.shelf(0, 0, 4);
        acted(x, "unasked parts", 2, 5, -15, 61, 40, 12);
        acted(x, "unasked wipes", 3, 5, -15, 13, 60, 11, 10, 61, 40, 12);
        acted(x, "unasked lifts", 0, 5, 13, 10);
    }

    private static void nothingActs() {
        BenchTowels x = Due.ofEachKind(7);
        x.shelf(0, 0, 0);
        x.sheet(0, 0, 4);
        x.shelf(1, 1, 0);
        int[][] none = {{4, 0}, {-1, 0}, {0, 4}, {0, -1}, {1, 0}, {2, 0}};
        for (int[] n : none) {
            Due.is("it acts", x.act(0, 0, 0), -14);
            Due.is("its TRACE", x.many(6), 2);
            Due.is("none acts", x.act(n[0], n[1], 5), 0);
            Due.is("no TRACE then", x.many(6), 0);
            Due.is("no TRACE then", x.trace(0), -3);
        }
    }

    // Promise 50
    private static void many() {
        BenchTowels x = Due.ofEachKind(7);
        x.change(1, 4, 0);
        x.change(3, 4, 0);
        Due.rules(x, "set lift; held wait; held ease; held lift;");
        x.report(1, 1, 1);
        x.prove(3);
        x.feed(0, 7);
        x.shelf(0, 0, 2);
        x.act(0, 3, 1);
        int[] due = {5, 4, 2, 1, 3, 7, 11};
        for (int what = 0; what <= 6; what++) Due.is("many(" + what + ")", x.many(what), due[what]);
        Due.is("many(7)", x.many(7), -1);
        Due.is("many(-1)", x.many(-1), -1);
    }
}
