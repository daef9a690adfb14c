/** Promises 51 and 52, by the sentences of the document that name an edge. */
public final class KeptEdgesTest {
    public static void main(String[] args) {
        nothingKept();
        keep();
        again();
        againFull();
        reports();
        latest();
        notKept();
        Due.end("KeptEdgesTest");
    }

    private static void nothingKept() {
        Due.by(52, "NONE: nothing is kept.");
        Edges.still("again() of a new one", BenchTowels::new, x -> x.again(), -3);
        Edges.still("again() of a full one, of which none is kept", Edges::full, x -> x.again(), -3);
        BenchTowels x = Edges.full();
        Due.is("keep()", x.keep(), 1);
        Due.is("again()", x.again(), 6);
        x = new BenchTowels();
        Due.is("keep() of a new one", x.keep(), 1);
        Due.is("again() of a new one that is kept", x.again(), 0);
    }

    private static BenchTowels kept(Edges.Maker from) {
        BenchTowels x = from.make();
        x.keep();
        return x;
    }

    private static void keep() {
        Due.by(51, "All but THE TAPE, ROWS, SHEETS, SHELVES, THE TRACE is kept: 1.");
        Edges.still("keep() of a new one, and again()", () -> kept(BenchTowels::new), x -> x.keep() * 10 + x.again(), 10);
        Edges.still("keep() of a busy one, and again()", () -> kept(Edges::busy), x -> x.keep() * 10 + x.again(), 15);
        Edges.still("keep() of a full one, and again()", () -> kept(Edges::full), x -> x.keep() * 10 + x.again(), 16);
        Edges.still("keep() when it is OVER, and again()", () -> kept(Edges::over), x -> x.keep() * 10 + x.again(), 15);
    }

    /** Makes another of all that is kept, by the calls that the document names for it. */
    private static int changeAll(BenchTowels x) {
        x.anew();
        x.ends(16);
        for (int s = 0; s < x.many(0); s++) {
            x.remake(s, x.setOf(s, 0) % 5 + 1);
            x.change(s, 1, (x.setOf(s, 1) + 1) % 6);
            x.change(s, 2, x.setOf(s, 2) % 9 + 1);
            x.change(s, 3, (x.setOf(s, 3) + 1) % 3);
            x.change(s, 4, 8);
        }
        x.set(4, 4, 4, 1);
        for (int m = 0; m <= 5; m++) {
            x.machine(m, 0, 1 + m);
            x.machine(m, 1, x.machineOf(m, 1) ^ 0xffff);
        }
        x.lot();
        for (int i = 0; i <= 2; i++) x.tire(i, 3 + i);
        x.seed(1234);
        x.forget();
        x.report(2, 0, 0);
        return 0;
    }

    private static void again() {
        Due.by(52, "It becomes what was kept latest (which stays): how many SETS.");
        Edges.still("again() of a new one", () -> kept(BenchTowels::new), x -> changeAll(x) + x.again(), 0);
        Edges.still("again() of a busy one", () -> kept(Edges::busy), x -> changeAll(x) + x.again(), 5);
        Edges.still("again() of a full one", () -> kept(Edges::full), x -> changeAll(x) + x.again(), 6);
        Edges.still("again() when it was OVER", () -> kept(Edges::over), x -> changeAll(x) + x.again(), 5);
        Edges.still("again() and again()", () -> kept(Edges::busy), x -> changeAll(x) + x.again() + changeAll(x) + x.again(), 10);
    }

    private static void againFull() {
        Due.by(52, "All but THE TAPE, ROWS, SHEETS, SHELVES, THE TRACE is kept: 1.");
        BenchTowels x = new BenchTowels();
        for (int s = 0; s <= 5; s++) x.set(5, 5, 9, 2);
        for (int m = 0; m <= 5; m++) {
            x.machine(m, 0, 9);
            x.machine(m, 1, 65535);
        }
        x.ends(16);
        for (int t = 0; t < 16; t++) x.minute();
        for (int s = 0; s <= 5; s++) x.change(s, 4, 0);
        for (int i = 0; i <= 2; i++) x.tire(i, 9);
        Due.rules(x, "set if (((1=1 and not minute<3 or left>9999))) wait;" + "held ease;".repeat(7));
        for (int i = 0; i <= 5; i++) x.report(15, 0, 4 - i / 5 * 4);
        x.seed(Edges.MIN);
        int score = x.state(2);
        x.keep();
        changeAll(x);
        Due.rules(x, "alone lift;");
        Due.is("again()", x.again(), 6);
        int[] state = {16, 16, score, 1, 63, 9, 9, 9};
        for (int what = 0; what <= 7; what++) Due.is("state(" + what + ")", x.state(what), state[what]);
        int[] set = {5, 5, 9, 2, 0, 0, 18, 3, 2};
        for (int i = 0; i < 54; i++) Due.is("setOf(" + i / 9 + ", " + i % 9 + ")", x.setOf(i / 9, i % 9), set[i % 9]);
        for (int i = 0; i < 12; i++) Due.is("machineOf(" + i / 2 + ", " + i % 2 + ")", x.machineOf(i / 2, i % 2), i % 2 == 0 ? 9 : 65535);
        Due.is("many(1)", x.many(1), 8);
        Due.is("many(3)", x.many(3), 6);
        Due.is("span(0)", x.span(0), 0);
        Due.is("liar()", x.liar(), 5);
        Due.is("z", x.seed(1), Edges.MIN);
        Due.is("set() for a seventh", x.set(1, 0, 1, 0), -2);
    }

    private static void reports() {
        Due.by(52, "It becomes what was kept latest (which stays): how many SETS.");
        for (int told = 0; told <= 5; told++) {
            BenchTowels x = new BenchTowels();
            // Five that tell nothing, and one by which START 0 to 9 sat just once or twice behind 9.
            for (int i = 0; i <= 5; i++) x.report(i == told ? 9 : 15, i == told ? 1 : 0, i == told ? 2 : 4);
            int many = x.span(0);
            Due.is("whether it tells something", many > 0 && many < 256 ? 1 : 0, 1);
            x.keep();
            x.forget();
            for (int i = 0; i <= 5; i++) x.report(0, 4, 4);
            Due.is("span(0) by others", x.span(0), 0);
            x.again();
            Due.is("span(0) by the REPORTS kept, the " + told + "th of which tells something", x.span(0), many);
            Due.is("span(1)", x.span(1), 0);
            Due.is("many(3)", x.many(3), 6);
        }
        for (int many = 0; many <= 6; many++) {
            BenchTowels x = new BenchTowels();
            for (int i = 0; i < many; i++) x.report(0, 4, 4);
            x.keep();
            x.forget();
            for (int i = 0; i < 6 - many; i++) x.report(15, 0, 4);
            x.again();
            Due.is("many(3), kept when there were " + many, x.many(3), many);
            Due.is("span(0)", x.span(0), many > 0 ? 0 : 256);
        }
    }

    private static void latest() {
        Due.by(52, "It becomes what was kept latest (which stays): how many SETS.");
        BenchTowels x = new BenchTowels();
        for (int s = 0; s <= 5; s++) {
            x.keep();
            x.set(4, 0, s + 1, 0);
        }
        Due.is("again(), kept ahead of the last", x.again(), 5);
        Due.is("setOf(5, 0), gone", x.setOf(5, 0), -1);
        Due.is("setOf(4, 2)", x.setOf(4, 2), 5);
        Due.is("set(), numbered as they come", x.set(1, 1, 1, 1), 5);
        Due.is("again(), which stays", x.again(), 5);
        x.change(0, 2, 9);
        x.keep();
        x.change(0, 2, 8);
        Due.is("again() of the latest", x.again(), 5);
        Due.is("setOf(0, 2)", x.setOf(0, 2), 9);
        x.minute();
        Due.is("again() behind a MINUTE", x.again(), 5);
        Due.is("setOf(0, 4), as it was kept", x.setOf(0, 4), 3);
        Due.is("machineOf(0, 0), as it was kept", x.machineOf(0, 0), 0);
    }

    private static void notKept() {
        Due.by(51, "All but THE TAPE, ROWS, SHEETS, SHELVES, THE TRACE is kept: 1.");
        // Kept ahead of all of these, they stay as they became behind it.
        BenchTowels x = kept(Edges::busy);
        changeOthers(x);
        int traced = x.many(6);
        changeAll(x);
        Due.is("again()", x.again(), 5);
        Due.is("many(4)", x.many(4), 1);
        Due.is("many(5)", x.many(5), 5);
        Due.is("many(6)", x.many(6), traced);
        Due.is("item(0, 4, 39)", x.item(0, 4, 39), 0);
        Due.is("item(1, 1, 0)", x.item(1, 1, 0), 77);
        Due.is("item(2, 4, 0), missing", x.item(2, 4, 0), -11);
        Due.is("item(3, 3, 1)", x.item(3, 3, 1), -5);
        Due.is("taken(0, 0)", x.taken(0, 0), -11);
        Due.is("taken(1, 0)", x.taken(1, 0), 2);
        Due.is("taken(2, 11)", x.taken(2, 11), 4);
        Due.is("taken(3, 0)", x.taken(3, 0), 4);
        Due.is("row(0, 1)", x.row(0, 1), -77);
        Due.is("trace(0)", x.trace(0), 50);
        Due.is("rules() of what is on THE TAPE", x.rules(), -105);
    }

    private static void changeOthers(BenchTowels x) {
        x.rules();
        Due.feed(x, "alone");
        x.prove(1);
        x.alterRow(0, 1, -77);
        x.sheet(0, 4, 40);
        x.write(1, 0, 77);
        x.sheet(2, -1, 0);
        x.sheet(3, 3, 2);
        x.write(3, 1, -5);
        x.shelf(0, 2, 0);
        x.shelf(1, 0, 2);
        x.shelf(2, 1, 1);
        x.shelf(3, 0, 4);
        x.act(3, 0, 3);
    }
}
