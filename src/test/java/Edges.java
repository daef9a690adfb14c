import java.util.ArrayList;
import java.util.List;

/** What the tests of edges use: gyms to begin with, all that can be seen of a gym, calls that must change nothing. */
final class Edges {
    static final int MIN = Integer.MIN_VALUE, MAX = Integer.MAX_VALUE;

    interface Maker {
        BenchTowels make();
    }

    interface Call {
        int of(BenchTowels x);
    }

    interface NumberCall {
        int of(BenchTowels x, int v);
    }

    private Edges() { }

    /** Five SETS (one of each KIND), and something of all that a gym can have; MINUTE 3, END 9; what is kept is another. */
    static BenchTowels busy() {
        BenchTowels x = new BenchTowels();
        x.set(1, 0, 6, 0);
        x.set(2, 1, 5, 1);
        x.set(4, 0, 9, 0);
        x.set(5, 2, 2, 2);
        x.machine(0, 1, 0b0000_0111);
        x.machine(1, 1, 0b0101_0101);
        Due.rules(x, "held ease;");
        x.report(7, 1, 3);
        x.keep();
        x.set(3, 1, 4, 1);
        x.machine(2, 1, 0b0010_0100);
        x.machine(4, 0, 7);
        x.ends(9);
        Due.rules(x, "shared if minute > 4 wait; set if weight < 4 ease;");
        x.report(3, 1, 2);
        x.report(9, 2, 4);
        for (int i = 0; i < 3; i++) x.minute();
        x.change(2, 4, 0);
        x.tire(2, 5);
        x.seed(77);
        x.prove(3);
        x.alterRow(1, 1, 99);
        for (int sheet = 0; sheet < 3; sheet++) {
            x.sheet(sheet, new int[] {0, 1, 4}[sheet], 5 - sheet);
            for (int i = 0; i < 5 - sheet; i++) x.write(sheet, i, i + 1);
        }
        x.shelf(0, 0, 3);
        x.shelf(1, 1, 1);
        x.shelf(3, 0, 0);
        x.act(0, 3, 10);
        Due.feed(x, "held wait;");
        return x;
    }

    /** Six SETS, six REPORTS, eight RULES, 200 bytes of THE TAPE; MINUTE 1. */
    static BenchTowels full() {
        BenchTowels x = new BenchTowels();
        for (int s = 0; s < 6; s++) x.set(s % 5 + 1, 5 - s, 9 - s, s % 3);
        for (int i = 0; i < 6; i++) x.report(10 + i, 0, 4);
        Due.rules(x, "set lift;".repeat(8));
        Due.feed(x, ("set ease;" + " ".repeat(200)).substring(0, 200));
        x.minute();
        return x;
    }

    /** As busy, but OVER. */
    static BenchTowels over() {
        BenchTowels x = busy();
        x.ends(3);
        return x;
    }

    /** The call answers what is due, and nothing that can be seen is another then. */
    static void still(String call, Maker from, Call c, int due) {
        changes(call, from, c, due);
    }

    /** Whatever the call answers, nothing that can be seen is another then. */
    static void asks(String call, Maker from, Call c) {
        changes(call, from, c, c.of(from.make()));
    }

    /** The call answers what is due; all that is another then are these lines. */
    static void changes(String call, Maker from, Call c, int due, String... lines) {
        BenchTowels x = from.make();
        Due.is(call, c.of(x), due);
        List<String> was = seen(from.make());
        List<String> is = seen(x);
        List<String> others = new ArrayList<>();
        for (int i = 0; i < is.size(); i++) {
            if (!was.get(i).equals(is.get(i))) others.add(is.get(i));
        }
        if (others.equals(List.of(lines))) Due.is(call + ": what it changes", 0, 0);
        else Due.is(call + " changes " + others + ", not " + List.of(lines) + ":", 1, 0);
    }

    /** The number must be least to most: just these are no refusal; the refused ones change nothing. */
    static void bounds(String call, Maker from, NumberCall c, int least, int most, int refusal) {
        for (int v : new int[] {least, most}) {
            Due.is(call + " of " + v + " is refused", c.of(from.make(), v) == refusal ? 1 : 0, 0);
        }
        for (int v : new int[] {least - 1, most + 1, MIN, MAX}) still(call + " of " + v, from, x -> c.of(x, v), refusal);
    }

    /** All that can be seen of a gym, at last by using up what it has. */
    static List<String> seen(BenchTowels x) {
        List<String> all = new ArrayList<>();
        for (int what = 0; what <= 6; what++) all.add("many(" + what + ") = " + x.many(what));
        gym(all, x, "");
        for (int i = 0; i < 12; i++) all.add("row(" + i / 3 + ", " + i % 3 + ") = " + x.row(i / 3, i % 3));
        for (int sheet = 0; sheet < 4; sheet++) sheet(all, x, sheet);
        for (int i = 0; i < 44; i++) {
            int as = i % 11 < 6 ? i % 11 : i % 11 + 4;
            all.add("taken(" + i / 11 + ", " + as + ") = " + x.taken(i / 11, as));
        }
        for (int i = 0; i < 12; i++) all.add("trace(" + i + ") = " + x.trace(i));
        all.add("z = " + x.seed(5));
        all.add("rules() by what is on THE TAPE = " + x.rules());
        for (int s = 0; s < 6; s++) all.add("WILL by it of " + s + " = " + x.setOf(s, 8));
        all.add("again() = " + x.again());
        gym(all, x, "kept: ");
        all.add("z kept = " + x.seed(5));
        return all;
    }

    private static void gym(List<String> all, BenchTowels x, String as) {
        for (int what = 0; what <= 7; what++) all.add(as + "state(" + what + ") = " + x.state(what));
        for (int i = 0; i < 54; i++) all.add(as + "setOf(" + i / 9 + ", " + i % 9 + ") = " + x.setOf(i / 9, i % 9));
        for (int i = 0; i < 12; i++) all.add(as + "machineOf(" + i / 2 + ", " + i % 2 + ") = " + x.machineOf(i / 2, i % 2));
        for (int what = 0; what <= 3; what++) all.add(as + "span(" + what + ") = " + x.span(what));
        all.add(as + "liar() = " + x.liar());
    }

    private static void sheet(List<String> all, BenchTowels x, int sheet) {
        for (int sort = 0; sort <= 4; sort++) {
            int first = x.item(sheet, sort, 0);
            all.add("item(" + sheet + ", " + sort + ", 0) = " + first);
            boolean isOfSort = first != -13 && first != -11;
            for (int i = 1; i <= 5; i++) {
                all.add("item(" + sheet + ", " + sort + ", " + i + ") = " + (isOfSort ? x.item(sheet, sort, i) : first));
            }
        }
    }
}
