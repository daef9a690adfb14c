/** Promises 41 to 47, by the sentences of the document that name an edge. */
public final class HostEdgesTest {
    public static void main(String[] args) {
        sheet();
        sheetOfEach();
        write();
        narrowed();
        item();
        itemFirstNamed();
        goAll();
        goAllOutside();
        goAllOver();
        wouldBe();
        wouldBeByItems();
        shelf();
        shelfAtTheTime();
        taken();
        takenAs();
        Due.end("HostEdgesTest");
    }

    private static final int[] WILD = {-1, Edges.MIN, Edges.MAX};

    /** SHEET 0 is a row of 4 of a sort; SHEETS 1 to 3 are missing. */
    private static BenchTowels laid(int sort) {
        BenchTowels x = new BenchTowels();
        x.sheet(0, sort, 4);
        for (int i = 0; i < 4; i++) x.write(0, i, i % 2);
        return x;
    }

    private static void sheet() {
        Due.by(41, "BAD: no such SHEET, sort, n above 40; -14.");
        Edges.bounds("sheet(v, 2, 1)", Edges::busy, (x, v) -> x.sheet(v, 2, 1), 0, 3, -1);
        Edges.bounds("sheet(1, v, 1)", Edges::busy, (x, v) -> x.sheet(1, v, 1), -1, 4, -1);
        for (int sort = 0; sort <= 4; sort++) {
            int of = sort;
            Due.is("sheet(1, " + sort + ", 0)", Edges.busy().sheet(1, sort, 0), 1);
            Due.is("sheet(1, " + sort + ", 40)", Edges.busy().sheet(1, sort, 40), 1);
            Edges.still("sheet(1, " + sort + ", 41)", Edges::busy, x -> x.sheet(1, of, 41), -1);
            Edges.still("sheet(1, " + sort + ", MAX)", Edges::busy, x -> x.sheet(1, of, Edges.MAX), -1);
            Edges.still("sheet(1, " + sort + ", -1)", Edges::busy, x -> x.sheet(1, of, -1), -14);
            Edges.still("sheet(1, " + sort + ", MIN)", Edges::busy, x -> x.sheet(1, of, Edges.MIN), -14);
        }
        Due.by(41, "or missing (sort -1; n counts nothing then): 1.");
        for (int n : new int[] {0, 40, 41, -1, Edges.MIN, Edges.MAX}) {
            BenchTowels x = Edges.busy();
            Due.is("sheet(1, -1, " + n + ")", x.sheet(1, -1, n), 1);
            for (int sort = 0; sort <= 4; sort++) Due.is("item(1, " + sort + ", 0)", x.item(1, sort, 0), -11);
        }
        Edges.still("sheet(3, -1, 0) of a missing one", Edges::busy, x -> x.sheet(3, -1, 0), 1);
        Due.by(41, "of several the first named");
        for (int n : new int[] {-1, Edges.MIN}) {
            Edges.still("sheet(4, 2, " + n + ")", Edges::busy, x -> x.sheet(4, 2, n), -1);
            Edges.still("sheet(-1, 2, " + n + ")", Edges::busy, x -> x.sheet(-1, 2, n), -1);
            Edges.still("sheet(1, 5, " + n + ")", Edges::busy, x -> x.sheet(1, 5, n), -1);
            Edges.still("sheet(1, -2, " + n + ")", Edges::busy, x -> x.sheet(1, -2, n), -1);
        }
        Edges.still("sheet(4, -1, 0)", Edges::busy, x -> x.sheet(4, -1, 0), -1);
        Edges.still("sheet(-1, -1, 0)", Edges::busy, x -> x.sheet(-1, -1, 0), -1);
    }

    private static void sheetOfEach() {
        Due.by(41, "A SHEET becomes a row of n of a sort, all 0");
        for (int sort = 0; sort <= 4; sort++) {
            for (int sheet = 0; sheet <= 3; sheet++) {
                BenchTowels x = new BenchTowels();
                Due.is("sheet(" + sheet + ", " + sort + ", 40)", x.sheet(sheet, sort, 40), 1);
                for (int i = 0; i < 40; i++) x.write(sheet, i, -1);
                for (int other = 0; other <= 3; other++) {
                    if (other != sheet) Due.is("what stays: item(" + other + ", " + sort + ", 0)", x.item(other, sort, 0), -11);
                }
                x.sheet(sheet, sort, 39);
                for (int i = 0; i < 39; i++) Due.is("item(" + sheet + ", " + sort + ", " + i + ")", x.item(sheet, sort, i), 0);
                Due.is("item(" + sheet + ", " + sort + ", 39)", x.item(sheet, sort, 39), -12);
                x.sheet(sheet, sort, 40);
                Due.is("item(" + sheet + ", " + sort + ", 39)", x.item(sheet, sort, 39), 0);
                x.sheet(sheet, sort, 0);
                Due.is("item(" + sheet + ", " + sort + ", 0) of none", x.item(sheet, sort, 0), -12);
                Due.is("write(" + sheet + ", 0, 0) of none", x.write(sheet, 0, 0), -12);
            }
        }
    }

    private static void write() {
        Due.by(42, "BAD: no such SHEET; -11; -12.");
        Edges.bounds("write(v, 0, 1)", () -> laid(2), (x, v) -> x.write(v, 0, 1), 0, 3, -1);
        for (int sort = 0; sort <= 4; sort++) {
            int of = sort;
            Edges.bounds("write(0, v, 1) of sort " + sort, () -> laid(of), (x, v) -> x.write(0, v, 1), 0, 3, -12);
        }
        for (int sheet = 1; sheet <= 3; sheet++) {
            int missing = sheet;
            Edges.still("write(" + sheet + ", 0, 1), missing", () -> laid(2), x -> x.write(missing, 0, 1), -11);
        }
        Due.by(42, "of several the first named");
        for (int i : WILD) {
            Edges.still("write(1, " + i + ", 1), missing", () -> laid(2), x -> x.write(1, i, 1), -11);
            Edges.still("write(4, " + i + ", 1)", () -> laid(2), x -> x.write(4, i, 1), -1);
            Edges.still("write(" + i + ", 9, 1)", () -> laid(2), x -> x.write(i, 9, 1), -1);
        }
    }

    private static void narrowed() {
        Due.by(42, "Item i becomes v, narrowed to its sort (booleans: whether it is not 0): 1.");
        int[][] bytes = {{127, 127}, {128, -128}, {-128, -128}, {-129, 127}, {255, -1}, {256, 0}, {-1, -1}, {Edges.MAX, -1}, {Edges.MIN, 0}};
        int[][] shorts = {{32767, 32767}, {32768, -32768}, {-32768, -32768}, {-32769, 32767}, {65535, -1}, {65536, 0}, {128, 128},
            {Edges.MAX, -1}, {Edges.MIN, 0}};
        int[][] ints = {{Edges.MAX, Edges.MAX}, {Edges.MIN, Edges.MIN}, {0, 0}, {-1, -1}, {65536, 65536}};
        int[][] booleans = {{0, 0}, {1, 1}, {-1, 1}, {2, 1}, {256, 1}, {65536, 1}, {Edges.MIN, 1}, {Edges.MAX, 1}};
        int[][][] due = {bytes, shorts, ints, ints, booleans};
        for (int sort = 0; sort <= 4; sort++) {
            for (int[] v : due[sort]) {
                for (int i = 0; i <= 3; i += 3) {
                    BenchTowels x = laid(sort);
                    Due.is("write(0, " + i + ", " + v[0] + ") of sort " + sort, x.write(0, i, v[0]), 1);
                    for (int j = 0; j < 4; j++) Due.is("item(0, " + sort + ", " + j + ")", x.item(0, sort, j), j == i ? v[1] : j % 2);
                }
            }
        }
    }

    private static void item() {
        Due.by(43, "BAD: no such SHEET, sort; -13; -11; -12.");
        for (int sort = 0; sort <= 4; sort++) {
            int of = sort;
            Edges.bounds("item(v, " + sort + ", 0)", () -> laid(of), (x, v) -> x.item(v, of, 0), 0, 3, -1);
            Edges.bounds("item(0, v, 0) of sort " + sort, () -> laid(of), (x, v) -> x.item(0, v, 0), 0, 4, -1);
            Edges.bounds("item(0, " + sort + ", v)", () -> laid(of), (x, v) -> x.item(0, of, v), 0, 3, -12);
            Edges.bounds("item(1, v, 0), missing", () -> laid(of), (x, v) -> x.item(1, v, 0), 0, 4, -1);
            for (int as = 0; as <= 4; as++) {
                int asked = as;
                Edges.still("item(0, " + as + ", 1) of sort " + sort, () -> laid(of), x -> x.item(0, asked, 1), as == sort ? 1 : -13);
                Edges.still("item(1, " + as + ", 1), missing", () -> laid(of), x -> x.item(1, asked, 1), -11);
            }
        }
        Due.by(43, "(An item may be as low as these, too.)");
        BenchTowels x = laid(2);
        for (int v : new int[] {-1, -11, -12, -13, -14, -15}) {
            x.write(0, 3, v);
            Due.is("item(0, 2, 3)", x.item(0, 2, 3), v);
        }
        Due.by(43, "of longs the lowest 32 bits");
        x = laid(3);
        for (int v : new int[] {Edges.MIN, Edges.MAX, -1}) {
            x.write(0, 3, v);
            Due.is("item(0, 3, 3)", x.item(0, 3, 3), v);
        }
    }

    private static void itemFirstNamed() {
        Due.by(43, "of several the first named");
        for (int i : new int[] {-1, 4, 40, Edges.MIN, Edges.MAX}) {
            Edges.still("item(0, 1, " + i + ") of ints", () -> laid(2), x -> x.item(0, 1, i), -13);
            Edges.still("item(1, 2, " + i + "), missing", () -> laid(2), x -> x.item(1, 2, i), -11);
            Edges.still("item(4, 2, " + i + ")", () -> laid(2), x -> x.item(4, 2, i), -1);
            Edges.still("item(0, 5, " + i + ")", () -> laid(2), x -> x.item(0, 5, i), -1);
            Edges.still("item(1, -1, " + i + "), missing", () -> laid(2), x -> x.item(1, -1, i), -1);
        }
    }

    /** Two held SETS of WEIGHT 9, LOAD 9, MUSCLES 0 and 1; SHEET 2 are bytes. */
    private static BenchTowels acts(int... items) {
        BenchTowels x = new BenchTowels();
        x.set(4, 0, 9, 0);
        x.set(4, 1, 9, 1);
        x.machine(0, 0, 9);
        x.machine(1, 0, 9);
        x.sheet(2, 0, items.length);
        for (int i = 0; i < items.length; i++) x.write(2, i, items[i]);
        return x;
    }

    private static void goAll() {
        Due.by(44, "n (0 to 20) items of a SHEET taken for bytes, from item i on, are ACTS");
        Edges.bounds("goAll(2, 0, v)", () -> acts(new int[40]), (x, v) -> x.goAll(2, 0, v), 0, 20, -1);
        Edges.bounds("goAll(v, 0, 1)", () -> acts(new int[40]), (x, v) -> x.goAll(v, 0, 1), 0, 3, -1);
        for (int sort = 1; sort <= 4; sort++) {
            int of = sort;
            Edges.still("goAll(0, 0, 1) of sort " + sort, () -> laid(of), x -> x.goAll(0, 0, 1), -13);
            Edges.still("goAll(0, 0, 0) of sort " + sort, () -> laid(of), x -> x.goAll(0, 0, 0), -13);
            Edges.still("goAll(0, 9, 1) of sort " + sort + ", outside", () -> laid(of), x -> x.goAll(0, 9, 1), -13);
            Edges.still("goAll(0, 0, 21) of sort " + sort, () -> laid(of), x -> x.goAll(0, 0, 21), -1);
            Edges.still("goAll(1, 0, 1), missing", () -> laid(of), x -> x.goAll(1, 0, 1), -11);
            Edges.still("goAll(1, -1, 1), missing, outside", () -> laid(of), x -> x.goAll(1, -1, 1), -11);
            Edges.still("goAll(1, 0, -1), missing", () -> laid(of), x -> x.goAll(1, 0, -1), -1);
        }
        Edges.still("goAll(2, 0, 0)", () -> acts(1, 2), x -> x.goAll(2, 0, 0), 0);
        Due.by(44, "each followed by a MINUTE (what is none, or when it is OVER, is left out)");
        int[] none = {-1, 3, 127, -128, 7};
        for (int act : none) {
            Edges.still("goAll() of " + act, () -> acts(act), x -> x.goAll(2, 0, 1), 0);
            BenchTowels x = acts(1, act, 2, act);
            Due.is("goAll() of 1, " + act + ", 2, " + act, x.goAll(2, 0, 4), 18);
            Due.is("MINUTE", x.state(0), 2);
        }
        BenchTowels x = acts(0, 2, 1, 0);
        Due.is("goAll() of 0, 2, 1, 0", x.goAll(2, 0, 4), 18);
        Due.is("MINUTE", x.state(0), 4);
        Due.is("SCORE", x.state(2), 18);
        Due.is("LEFT", x.setOf(0, 4) * 10 + x.setOf(1, 4), 22);
        int[] twenty = new int[40];
        twenty[20] = 1;
        twenty[39] = 2;
        x = acts(twenty);
        for (int i = 21; i < 39; i++) x.write(2, i, -1);
        Due.is("goAll(2, 20, 20)", x.goAll(2, 20, 20), 18);
        Due.is("MINUTE", x.state(0), 2);
        x = acts(twenty);
        Due.is("goAll(2, 0, 20)", x.goAll(2, 0, 20), 0);
        Due.is("MINUTE", x.state(0), 12);
    }

    private static void goAllOutside() {
        Due.by(44, "-12: what stood ahead was done.");
        for (int n = 0; n <= 4; n++) {
            BenchTowels x = acts(1, 2, 1);
            Due.is("goAll(2, 0, " + n + ") of three", x.goAll(2, 0, n), n > 3 ? -12 : new int[] {0, 9, 18, 18 + 8}[n]);
            Due.is("MINUTE", x.state(0), Math.min(n, 3));
            Due.is("SCORE", x.state(2), new int[] {0, 9, 18, 26, 26}[n]);
        }
        BenchTowels x = acts(1, 2, 1);
        Due.is("goAll(2, 2, 2) of three", x.goAll(2, 2, 2), -12);
        Due.is("SCORE", x.state(2), 9);
        for (int i : new int[] {3, 4, 40, -1, Edges.MIN, Edges.MAX, Edges.MAX - 1}) {
            for (int n : new int[] {1, 2, 20}) Edges.still("goAll(2, " + i + ", " + n + ") of three", () -> acts(1, 2, 1), y -> y.goAll(2, i, n), -12);
            Edges.still("goAll(2, " + i + ", 0) of three", () -> acts(1, 2, 1), y -> y.goAll(2, i, 0), 0);
        }
        Edges.still("goAll(2, 0, 1) of none", () -> acts(), y -> y.goAll(2, 0, 1), -12);
    }

    private static void goAllOver() {
        Due.by(44, "or when it is OVER, is left out");
        for (int end = 1; end <= 3; end++) {
            BenchTowels x = acts(1, 2, 1);
            x.ends(end);
            Due.is("goAll(2, 0, 3) with END " + end, x.goAll(2, 0, 3), new int[] {0, 9, 18, 26}[end]);
            Due.is("MINUTE", x.state(0), end);
            Due.is("goAll(2, 0, 3) when it is OVER", x.goAll(2, 0, 3), 0);
            Due.is("MINUTE", x.state(0), end);
            Due.is("SCORE", x.state(2), new int[] {0, 9, 18, 26}[end]);
        }
    }

    private static void wouldBe() {
        Due.by(45, "BAD: no such SHEET, n; -13; -11; then, by items, -12; STATE");
        Edges.bounds("wouldBe(2, 0, v)", () -> acts(new int[40]), (x, v) -> x.wouldBe(2, 0, v), 0, 20, -1);
        Edges.bounds("wouldBe(v, 0, 1)", () -> acts(new int[40]), (x, v) -> x.wouldBe(v, 0, 1), 0, 3, -1);
        for (int sort = 1; sort <= 4; sort++) {
            int of = sort;
            Edges.still("wouldBe(0, 0, 1) of sort " + sort, () -> laid(of), x -> x.wouldBe(0, 0, 1), -13);
            Edges.still("wouldBe(0, 0, 0) of sort " + sort, () -> laid(of), x -> x.wouldBe(0, 0, 0), -13);
            Edges.still("wouldBe(0, 9, 1) of sort " + sort + ", outside", () -> laid(of), x -> x.wouldBe(0, 9, 1), -13);
            Edges.still("wouldBe(0, 0, 21) of sort " + sort, () -> laid(of), x -> x.wouldBe(0, 0, 21), -1);
            Edges.still("wouldBe(1, 0, 1), missing", () -> laid(of), x -> x.wouldBe(1, 0, 1), -11);
            Edges.still("wouldBe(1, -1, 1), missing, outside", () -> laid(of), x -> x.wouldBe(1, -1, 1), -11);
            Edges.still("wouldBe(1, 0, -1), missing", () -> laid(of), x -> x.wouldBe(1, 0, -1), -1);
        }
        Due.by(45, "n (0 to 20) items likewise: what they would be WORTH.");
        for (int n = 0; n <= 4; n++) {
            int many = n;
            int due = new int[] {0, 9, 18, 26, -12}[n];
            Edges.still("wouldBe(2, 0, " + n + ") of three", () -> acts(1, 2, 1), x -> x.wouldBe(2, 0, many), due);
        }
        Edges.still("wouldBe(2, 24, 16)", () -> sixteen(), x -> x.wouldBe(2, 24, 16), 0);
        Edges.still("wouldBe(2, 23, 17)", () -> sixteen(), x -> x.wouldBe(2, 23, 17), -4);
        Edges.still("wouldBe(2, 24, 17)", () -> sixteen(), x -> x.wouldBe(2, 24, 17), -12);
    }

    /** 40 bytes, all 0, and 16 MINUTES. */
    private static BenchTowels sixteen() {
        BenchTowels x = acts(new int[40]);
        x.ends(16);
        return x;
    }

    private static void wouldBeByItems() {
        Due.by(45, "one is no ACT, or it would be OVER ahead of it.");
        for (int act : new int[] {-1, 3, 127, -128}) {
            Edges.still("wouldBe() of " + act, () -> acts(act, 0), x -> x.wouldBe(2, 0, 1), -4);
            Edges.still("wouldBe() of 0, " + act, () -> acts(0, act), x -> x.wouldBe(2, 0, 2), -4);
            Edges.still("wouldBe() of what stands ahead of " + act, () -> acts(1, act), x -> x.wouldBe(2, 0, 1), 9);
        }
        for (int end = 1; end <= 3; end++) {
            int last = end;
            for (int n = 0; n <= 3; n++) {
                int many = n;
                Edges.still("wouldBe(2, 0, " + n + ") with END " + end, () -> ending(last), x -> x.wouldBe(2, 0, many),
                    n > end ? -4 : new int[] {0, 9, 18, 26}[n]);
            }
        }
        Edges.still("wouldBe(2, 0, 0) when it is OVER", () -> overed(), x -> x.wouldBe(2, 0, 0), 0);
        Edges.still("wouldBe(2, 0, 1) when it is OVER", () -> overed(), x -> x.wouldBe(2, 0, 1), -4);
        Due.by(45, "then, by items, -12; STATE: one is no ACT, or it would be OVER ahead of it.");
        Edges.still("outside, and OVER", () -> overed(), x -> x.wouldBe(2, 3, 1), -12);
        Edges.still("OVER ahead of an item, then outside", () -> overed(), x -> x.wouldBe(2, 2, 2), -4);
        Edges.still("no ACT, then outside", () -> acts(0, 0, 9), x -> x.wouldBe(2, 2, 2), -4);
        for (int i : new int[] {3, 40, -1, Edges.MIN, Edges.MAX, Edges.MAX - 1}) {
            for (int n : new int[] {1, 2, 20}) Edges.still("wouldBe(2, " + i + ", " + n + ") of three", () -> acts(1, 2, 1), y -> y.wouldBe(2, i, n), -12);
            Edges.still("wouldBe(2, " + i + ", 0) of three", () -> acts(1, 2, 1), y -> y.wouldBe(2, i, 0), 0);
        }
    }

    private static BenchTowels ending(int end) {
        BenchTowels x = acts(1, 2, 1);
        x.ends(end);
        return x;
    }

    private static BenchTowels overed() {
        BenchTowels x = ending(1);
        x.minute();
        return x;
    }

    private static void shelf() {
        Due.by(46, "BAD: no such SHELF, what, thing.");
        for (int what = 0; what <= 2; what++) {
            int of = what;
            Edges.bounds("shelf(v, " + what + ", 0)", Edges::busy, (x, v) -> x.shelf(v, of, 0), 0, 3, -1);
        }
        Edges.bounds("shelf(0, v, 0)", Edges::busy, (x, v) -> x.shelf(0, v, 0), 0, 2, -1);
        Edges.bounds("shelf(0, 0, v) of five SETS", Edges::busy, (x, v) -> x.shelf(0, 0, v), 0, 4, -1);
        Edges.bounds("shelf(0, 0, v) of six SETS", Edges::full, (x, v) -> x.shelf(0, 0, v), 0, 5, -1);
        Edges.bounds("shelf(0, 1, v)", Edges::busy, (x, v) -> x.shelf(0, 1, v), 0, 3, -1);
        Edges.still("shelf(0, 0, 0) without SETS", BenchTowels::new, x -> x.shelf(0, 0, 0), -1);
        Due.by(46, "A SHELF holds SET n (what 0), the row of SHEET n (1; nothing, if missing), nothing (2): 1.");
        Edges.still("shelf(0, 0, 3), as it is", Edges::busy, x -> x.shelf(0, 0, 3), 1);
        Edges.still("shelf(1, 1, 1), as it is", Edges::busy, x -> x.shelf(1, 1, 1), 1);
        Edges.still("shelf(2, 1, 3) of a missing one", Edges::busy, x -> x.shelf(2, 1, 3), 1);
        for (int n : new int[] {0, 5, -1, Edges.MIN, Edges.MAX}) {
            Edges.still("shelf(2, 2, " + n + ")", Edges::busy, x -> x.shelf(2, 2, n), 1);
        }
        for (int shelf = 0; shelf <= 3; shelf++) {
            BenchTowels x = Edges.busy();
            Due.is("shelf(" + shelf + ", 0, 4)", x.shelf(shelf, 0, 4), 1);
            Due.is("taken(" + shelf + ", 0)", x.taken(shelf, 0), 4);
            Due.is("shelf(" + shelf + ", 1, 0)", x.shelf(shelf, 1, 0), 1);
            Due.is("taken(" + shelf + ", 10)", x.taken(shelf, 10), 5);
            Due.is("shelf(" + shelf + ", 1, 3)", x.shelf(shelf, 1, 3), 1);
            Due.is("taken(" + shelf + ", 10)", x.taken(shelf, 10), -11);
            x.shelf(shelf, 0, 4);
            Due.is("shelf(" + shelf + ", 2, 4)", x.shelf(shelf, 2, 4), 1);
            Due.is("taken(" + shelf + ", 0)", x.taken(shelf, 0), -11);
        }
    }

    private static void shelfAtTheTime() {
        Due.by(46, "hold a SET (by its number; nothing, if there is no such one at the time)");
        BenchTowels x = new BenchTowels();
        x.keep();
        for (int s = 0; s < 4; s++) {
            x.set(s + 1, 0, 9, 0);
            x.shelf(s, 0, s);
        }
        x.again();
        for (int s = 0; s < 4; s++) {
            for (int as : new int[] {0, 5, 10, 14}) Due.is("taken(" + s + ", " + as + ") of a SET that is gone", x.taken(s, as), -11);
            for (int act = 0; act <= 3; act++) Due.is("act(" + s + ", " + act + ", 7) of a SET that is gone", x.act(s, act, 7), 0);
        }
        x.set(5, 0, 4, 0);
        Due.is("taken(0, 5) when there is one again", x.taken(0, 5), 0);
        Due.is("act(0, 0, 7)", x.act(0, 0, 7), 15);
        Due.is("taken(1, 0) of the next one", x.taken(1, 0), -11);
    }

    private static void taken() {
        Due.by(47, "BAD: no such SHELF, as; -13; -11.");
        Edges.bounds("taken(v, 0)", Edges::busy, (x, v) -> x.taken(v, 0), 0, 3, -1);
        Edges.bounds("taken(0, v)", Edges::busy, (x, v) -> v <= 5 ? x.taken(0, v) : -1, 0, 5, -1);
        Edges.bounds("taken(1, v)", Edges::busy, (x, v) -> v >= 10 ? x.taken(1, v) : -1, 10, 14, -1);
        for (int shelf = 0; shelf <= 3; shelf++) {
            int of = shelf;
            for (int as : new int[] {-1, 6, 7, 8, 9, 15, Edges.MIN, Edges.MAX}) {
                Edges.still("taken(" + shelf + ", " + as + ")", Edges::busy, x -> x.taken(of, as), -1);
            }
        }
        for (int as : new int[] {0, 1, 2, 3, 4, 5, 10, 11, 12, 13, 14}) {
            Edges.still("taken(2, " + as + ") of nothing", Edges::busy, x -> x.taken(2, as), -11);
            Edges.still("taken(4, " + as + ")", Edges::busy, x -> x.taken(4, as), -1);
        }
    }

    private static void takenAs() {
        Due.by(47, "What a SHELF holds taken for a thing of KIND as (0 to 5, or one under it): its number");
        String[] is = {"110000", "101000", "101100", "100010", "100011"};
        for (int kind = 1; kind <= 5; kind++) {
            for (int n : new int[] {0, 5}) {
                BenchTowels x = new BenchTowels();
                for (int s = 0; s <= n; s++) x.set(kind, 0, 1, 0);
                x.shelf(3, 0, n);
                for (int as = 0; as <= 5; as++) {
                    Due.is("KIND " + kind + ": taken(3, " + as + ")", x.taken(3, as), is[kind - 1].charAt(as) == '1' ? n : -13);
                }
                for (int as = 10; as <= 14; as++) Due.is("KIND " + kind + ": taken(3, " + as + ")", x.taken(3, as), -13);
            }
        }
        Due.by(47, "for a row of sort as - 10 (as 10 to 14): how many items");
        for (int sort = 0; sort <= 4; sort++) {
            for (int n : new int[] {0, 1, 40}) {
                BenchTowels x = new BenchTowels();
                x.sheet(3, sort, n);
                x.shelf(3, 1, 3);
                for (int as = 10; as <= 14; as++) {
                    Due.is("sort " + sort + ": taken(3, " + as + ")", x.taken(3, as), as == sort + 10 ? n : -13);
                }
                for (int as = 0; as <= 5; as++) Due.is("sort " + sort + ": taken(3, " + as + ")", x.taken(3, as), -13);
            }
        }
    }
}
