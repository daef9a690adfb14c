import java.util.ArrayList;
import java.util.List;

/** What each call changes and what stays, by the sentences that tell it; all of the gym of Edges.busy(). */
public final class ChangesEdgesTest {
    public static void main(String[] args) {
        ofSets();
        ofTheGym();
        ofTheTape();
        ofMinutes();
        ofTheRest();
        ofRows();
        ofTheHost();
        ofTheShelves();
        ofWhatIsKept();
        asked();
        manyCalls();
        Due.end("ChangesEdgesTest");
    }

    private static void changes(String call, Edges.Call c, int due, String... lines) {
        Edges.changes(call, Edges::busy, c, due, lines);
    }

    private static void ofSets() {
        Due.by(2, "numbered as they come");
        changes("set(3, 5, 9, 2)", x -> x.set(3, 5, 9, 2), 5, "many(0) = 6", "setOf(5, 0) = 3", "setOf(5, 1) = 5", "setOf(5, 2) = 9",
            "setOf(5, 3) = 2", "setOf(5, 4) = 3", "setOf(5, 5) = 1", "setOf(5, 6) = 8", "setOf(5, 7) = 1", "setOf(5, 8) = 0",
            "WILL by it of 5 = 0");
        Due.by(4, "MACHINE (what 1), WEIGHT (2), MUSCLE (3), LEFT (4) of a SET becomes v: what it was.");
        changes("change(1, 1, 5)", x -> x.change(1, 1, 5), 1, "setOf(1, 1) = 5");
        changes("change(1, 2, 1)", x -> x.change(1, 2, 1), 5, "setOf(1, 2) = 1", "setOf(1, 6) = 0", "setOf(1, 8) = 1");
        changes("change(1, 3, 2)", x -> x.change(1, 3, 2), 1, "setOf(1, 3) = 2");
        changes("change(1, 4, 9)", x -> x.change(1, 4, 9), 2, "setOf(1, 4) = 9");
        changes("change(1, 4, 0)", x -> x.change(1, 4, 0), 2, "many(2) = 2", "state(4) = 6", "setOf(1, 4) = 0");
        Due.by(5, "A SET becomes one of another KIND (1 to 5): the KIND that it was.");
        changes("remake(3, 1)", x -> x.remake(3, 1), 5, "setOf(3, 0) = 1", "setOf(3, 5) = 1", "taken(0, 1) = 3", "taken(0, 4) = -13",
            "taken(0, 5) = -13", "WILL by it of 3 = 0");
    }

    private static void ofTheGym() {
        Due.by(6, "Of a MACHINE: LOAD (what 0), MINUTES in which it is TAKEN (1, as a set) becomes v: what it was.");
        changes("machine(4, 0, 2)", x -> x.machine(4, 0, 2), 7, "machineOf(4, 0) = 2");
        changes("machine(0, 1, 65535)", x -> x.machine(0, 1, 65535), 7, "setOf(0, 5) = 0", "setOf(2, 5) = 0", "machineOf(0, 1) = 65535");
        Due.by(8, "How TIRED a MUSCLE is becomes v: what it was.");
        changes("tire(2, 0)", x -> x.tire(2, 0), 5, "state(7) = 0");
        Due.by(9, "END becomes v: what it was.");
        changes("ends(10)", x -> x.ends(10), 9, "state(1) = 10");
        changes("ends(3)", x -> x.ends(3), 9, "state(1) = 3", "state(3) = 1");
        Due.by(10, "MINUTE is 0 again, SCORE 0, 3 of each SET are LEFT, no MUSCLE is TIRED, each LOAD is 0: what MINUTE was.");
        changes("anew()", x -> x.anew(), 3, "many(2) = 0", "state(0) = 0", "state(2) = 0", "state(4) = 0", "state(6) = 0", "state(7) = 0",
            "setOf(0, 5) = 0", "setOf(1, 4) = 3", "setOf(1, 5) = 0", "setOf(2, 4) = 3", "setOf(2, 5) = 0", "setOf(3, 4) = 3",
            "setOf(4, 4) = 3", "setOf(4, 6) = 6", "machineOf(1, 0) = 0", "machineOf(2, 0) = 0", "machineOf(4, 0) = 0");
    }

    private static void ofTheTape() {
        Due.by(12, "come to THE TAPE, the lowest of eight first: how many it has.");
        changes("feed('x', 1)", x -> x.feed('x', 1), 11, "many(5) = 11", "rules() by what is on THE TAPE = -110", "WILL by it of 2 = 0",
            "WILL by it of 3 = 1");
        Due.by(13, "THE TAPE tells THE RULES (in place of all): how many");
        changes("rules()", x -> x.rules(), 1, "many(1) = 1", "many(5) = 0", "setOf(2, 8) = 2", "setOf(3, 8) = 2",
            "rules() by what is on THE TAPE = 0", "WILL by it of 2 = 0", "WILL by it of 3 = 0");
        Due.by(13, "such a call changes nothing (but that THE TAPE is used up by rules())");
        changes("rules() by a FAULT", x -> x.feed('x', 1) * 0 + x.rules(), -110, "many(5) = 0", "rules() by what is on THE TAPE = 0",
            "WILL by it of 2 = 0", "WILL by it of 3 = 0");
    }

    private static void ofMinutes() {
        Due.by(14, "A MINUTE goes by as in THE REST: what it was WORTH.");
        // SET 0: 6 + 2 less 6 / 3; MUSCLE 0 is 3 more TIRED.
        changes("minute()", x -> x.minute(), 6, "state(0) = 4", "state(2) = 16", "state(5) = 3", "state(6) = 0", "state(7) = 4",
            "setOf(0, 4) = 2", "setOf(1, 5) = 0", "setOf(4, 6) = 6", "machineOf(0, 0) = 6");
        Due.by(35, "A MINUTE by LOT: what it was WORTH.");
        // z >>> 16 is 51365, that leaves 5 by 6: SET 4, 3 less 1.
        changes("lot()", x -> x.lot(), 2, "state(0) = 4", "state(2) = 12", "state(6) = 2", "state(7) = 4", "setOf(1, 5) = 0",
            "setOf(4, 4) = 1", "setOf(4, 6) = 6", "machineOf(1, 0) = 4", "z = -928659710");
        Due.by(44, "each followed by a MINUTE (what is none, or when it is OVER, is left out)");
        changes("goAll(0, 4, 1)", x -> x.goAll(0, 4, 1), 2, "state(0) = 4", "state(2) = 12", "state(6) = 2", "state(7) = 4",
            "setOf(1, 5) = 0", "setOf(4, 4) = 1", "setOf(4, 6) = 6", "machineOf(1, 0) = 4");
    }

    private static void ofTheRest() {
        Due.by(30, "A REPORT: its number.");
        changes("report(15, 0, 4)", x -> x.report(15, 0, 4), 3, "many(3) = 4");
        changes("report(15, 0, 0)", x -> x.report(15, 0, 0), 3, "many(3) = 4", "span(0) = 0", "span(1) = -3", "span(2) = -3", "span(3) = -3",
            "liar() = 3");
        Due.by(31, "There are no REPORTS: how many there were.");
        changes("forget()", x -> x.forget(), 3, "many(3) = 0", "span(0) = 256", "span(3) = 1");
        Due.by(34, "z becomes v: what it was.");
        changes("seed(-1)", x -> x.seed(-1), 77, "z = -1");
    }

    private static void ofRows() {
        Due.by(37, "ROWS of the FIRST of the BEST PLANS of n (0 to 4): how many.");
        String[] second = {"row(1, 0) = -9", "row(1, 1) = -9", "row(1, 2) = -9", "row(2, 0) = -9", "row(2, 1) = -9", "row(2, 2) = -9"};
        changes("prove(0)", x -> x.prove(0), 0, all(new String[] {"many(4) = 0", "row(0, 0) = -9", "row(0, 1) = -9", "row(0, 2) = -9"}, second));
        changes("prove(1)", x -> x.prove(1), 1, all(new String[] {"many(4) = 1"}, second));
        Due.by(39, "It becomes v: what it was. -9 likewise.");
        changes("alterRow(2, 2, -9)", x -> x.alterRow(2, 2, -9), 4, "row(2, 2) = -9");
    }

    private static String[] all(String[]... parts) {
        List<String> all = new ArrayList<>();
        for (String[] part : parts) all.addAll(List.of(part));
        return all.toArray(new String[0]);
    }

    /** The lines of a SHEET: missing if of no sort, else of a sort with items. */
    private static String[] sheet(int sheet, int sort, int... items) {
        List<String> all = new ArrayList<>();
        for (int as = 0; as <= 4; as++) {
            for (int i = 0; i <= 5; i++) {
                int due = sort < 0 ? -11 : as != sort ? -13 : i < items.length ? items[i] : -12;
                all.add("item(" + sheet + ", " + as + ", " + i + ") = " + due);
            }
        }
        return all.toArray(new String[0]);
    }

    private static void ofTheHost() {
        Due.by(41, "A SHEET becomes a row of n of a sort, all 0, or missing (sort -1; n counts nothing then): 1.");
        changes("sheet(3, 3, 2)", x -> x.sheet(3, 3, 2), 1, sheet(3, 3, 0, 0));
        changes("sheet(2, -1, 9)", x -> x.sheet(2, -1, 9), 1, sheet(2, -1));
        changes("sheet(2, 4, 3)", x -> x.sheet(2, 4, 3), 1, "item(2, 4, 0) = 0", "item(2, 4, 1) = 0", "item(2, 4, 2) = 0");
        Due.by(42, "Item i becomes v, narrowed to its sort");
        changes("write(1, 3, 70000)", x -> x.write(1, 3, 70000), 1, "item(1, 1, 3) = 4464");
    }

    /** The lines of a SHELF, by what it is taken for: 0 to 5, then 10 to 14. */
    private static String[] shelf(int shelf, int... due) {
        String[] all = new String[11];
        for (int i = 0; i <= 10; i++) all[i] = "taken(" + shelf + ", " + (i < 6 ? i : i + 4) + ") = " + due[i];
        return all;
    }

    private static void ofTheShelves() {
        Due.by(46, "A SHELF holds SET n (what 0), the row of SHEET n (1; nothing, if missing), nothing (2): 1.");
        changes("shelf(2, 0, 4)", x -> x.shelf(2, 0, 4), 1, shelf(2, 4, -13, 4, 4, -13, -13, -13, -13, -13, -13, -13));
        changes("shelf(2, 1, 2)", x -> x.shelf(2, 1, 2), 1, shelf(2, -13, -13, -13, -13, -13, -13, -13, -13, -13, -13, 3));
        changes("shelf(1, 2, 0)", x -> x.shelf(1, 2, 0), 1, shelf(1, -11, -11, -11, -11, -11, -11, -11, -11, -11, -11, -11));
        changes("shelf(1, 1, 3)", x -> x.shelf(1, 1, 3), 1, shelf(1, -11, -11, -11, -11, -11, -11, -11, -11, -11, -11, -11));
        String[] rest = {"trace(2) = -3", "trace(3) = -3", "trace(4) = -3", "trace(5) = -3", "trace(6) = -3", "trace(7) = -3"};
        Due.by(48, "An ACT (0 to 3) of the thing on a SHELF, with x.");
        changes("act(3, 0, 1)", x -> x.act(3, 0, 1), -13, all(new String[] {"many(6) = 2", "trace(0) = 20", "trace(1) = 10"}, rest));
        Due.by(48, "0, and no TRACE then: no such SHELF, act, nothing, a row.");
        changes("act(2, 0, 1)", x -> x.act(2, 0, 1), 0, all(new String[] {"many(6) = 0", "trace(0) = -3", "trace(1) = -3"}, rest));
    }

    private static void ofWhatIsKept() {
        Due.by(51, "All but THE TAPE, ROWS, SHEETS, SHELVES, THE TRACE is kept: 1.");
        String[] now = {"state(0) = 3", "state(1) = 9", "state(2) = 10", "state(4) = 4", "state(6) = 1", "state(7) = 5", "setOf(0, 5) = 1",
            "setOf(1, 4) = 2", "setOf(1, 5) = 1", "setOf(2, 4) = 0", "setOf(2, 5) = 1", "setOf(2, 8) = 0", "setOf(3, 4) = 2", "setOf(4, 0) = 3",
            "setOf(4, 1) = 1", "setOf(4, 2) = 4", "setOf(4, 3) = 1", "setOf(4, 4) = 2", "setOf(4, 5) = 1", "setOf(4, 6) = 3", "setOf(4, 7) = 1",
            "setOf(4, 8) = 0", "machineOf(1, 0) = 5", "machineOf(2, 0) = 2", "machineOf(2, 1) = 36", "machineOf(4, 0) = 7", "span(0) = 40",
            "span(3) = 2"};
        for (int i = 0; i < now.length; i++) now[i] = "kept: " + now[i];
        changes("keep()", x -> x.keep(), 1, all(new String[] {"again() = 5"}, now, new String[] {"z kept = 77"}));
        Due.by(52, "It becomes what was kept latest (which stays): how many SETS.");
        changes("again()", x -> x.again(), 4, "many(0) = 4", "many(1) = 1", "many(2) = 0", "many(3) = 1", "state(0) = 0", "state(1) = 12",
            "state(2) = 0", "state(4) = 0", "state(6) = 0", "state(7) = 0", "setOf(0, 5) = 0", "setOf(1, 4) = 3", "setOf(1, 5) = 0",
            "setOf(2, 4) = 3", "setOf(2, 5) = 0", "setOf(2, 8) = 1", "setOf(3, 4) = 3", "setOf(4, 0) = -1", "setOf(4, 1) = -1",
            "setOf(4, 2) = -1", "setOf(4, 3) = -1", "setOf(4, 4) = -1", "setOf(4, 5) = -1", "setOf(4, 6) = -1", "setOf(4, 7) = -1",
            "setOf(4, 8) = -1", "machineOf(1, 0) = 0", "machineOf(2, 0) = 0", "machineOf(2, 1) = 0", "machineOf(4, 0) = 0", "span(0) = 121",
            "span(3) = 1", "z = 1", "WILL by it of 4 = -1");
    }

    private static void asked() {
        Due.by(3, "What is asked changes nothing, if not told.");
        for (Edges.Maker from : new Edges.Maker[] {Edges::busy, Edges::full, Edges::over}) {
            Edges.asks("setOf(4, 8)", from, x -> x.setOf(4, 8));
            Edges.asks("machineOf(0, 1)", from, x -> x.machineOf(0, 1));
            Edges.asks("state(4)", from, x -> x.state(4));
            Edges.asks("on(16)", from, x -> x.on(16));
            Edges.asks("when(4)", from, x -> x.when(4));
            Edges.asks("weightFor(1)", from, x -> x.weightFor(1));
            Edges.asks("machineFor(1)", from, x -> x.machineFor(1));
            Edges.asks("gather(31)", from, x -> x.gather(31));
            Edges.asks("gathered(19, 4)", from, x -> x.gathered(19, 4));
            Edges.asks("free(0, 3)", from, x -> x.free(0, 3));
            Edges.asks("busiest(0)", from, x -> x.busiest(0));
            Edges.asks("best(4)", from, x -> x.best(4));
            Edges.asks("ith(4, 3)", from, x -> x.ith(4, 3));
            Edges.asks("ways(4)", from, x -> x.ways(4));
            Edges.asks("train(4, 19)", from, x -> x.train(4, 19));
            Edges.asks("bars(4, 31)", from, x -> x.bars(4, 31));
            Edges.asks("game(4)", from, x -> x.game(4));
            Edges.asks("play(4)", from, x -> x.play(4));
            Edges.asks("span(1)", from, x -> x.span(1));
            Edges.asks("liar()", from, x -> x.liar());
            Edges.asks("times(40, 20)", from, x -> x.times(40, 20));
            Edges.asks("row(0, 1)", from, x -> x.row(0, 1));
            Edges.asks("judge()", from, x -> x.judge());
            Edges.asks("item(0, 0, 4)", from, x -> x.item(0, 0, 4));
            Edges.asks("wouldBe(0, 0, 5)", from, x -> x.wouldBe(0, 0, 5));
            Edges.asks("taken(0, 0)", from, x -> x.taken(0, 0));
            Edges.asks("trace(0)", from, x -> x.trace(0));
            Edges.asks("many(6)", from, x -> x.many(6));
        }
    }

    private static void manyCalls() {
        Due.by(1, "An object is used for at most 512 calls after it has been made");
        BenchTowels x = new BenchTowels();
        for (int i = 0; i < 4; i++) x.set(3, i, 9, i % 3);
        // 4 + 1 + 45 * 11 + 10 + 2 calls.
        x.keep();
        for (int i = 0; i < 45; i++) {
            x.minute();
            x.lot();
            x.feed(0x2020202020202020L, 8);
            x.rules();
            x.report(i % 16, 0, 4);
            x.prove(4);
            x.sheet(i % 4, i % 5, 40);
            x.shelf(i % 4, 0, i % 4);
            x.act(i % 4, 3, i);
            x.set(1, 1, 1, 1);
            Due.is("again()", x.again(), 4);
        }
        // 11 - 3, 8 - 3, 11, 8, by two in turn.
        for (int i = 0; i < 10; i++) Due.is("best(4)", x.best(4), 32);
        Due.is("the 511th call", x.game(4), 19);
        Due.is("the 512th call", x.state(0), 0);
    }
}
