import java.io.IOException;
import java.nio.file.Files;
import java.nio.file.Path;
import java.util.regex.Matcher;
import java.util.regex.Pattern;

/** What README.md shows: its calls with their answers, its table of answers below 0, how many calls an object takes. */
public final class ReadmeTest {
    private static String page = "";
    private static int shown = 0;

    public static void main(String[] args) throws IOException {
        page = Files.readString(Path.of("README.md"));
        calls();
        refusals();
        words();
        tests();
        Due.end("ReadmeTest");
    }

    /** A call as the page shows it, what it answers, and that the page tells this answer beside it. */
    private static void line(String call, int got, int want) {
        shown++;
        Due.is(call, got, want);
        Pattern told = Pattern.compile("(?m)^" + Pattern.quote(call) + " +// " + want + "(:.*)?$");
        Due.is("a line of the page with " + call + " and " + want, told.matcher(page).find() ? 1 : 0, 1);
    }

    private static void calls() {
        BenchTowels gym = new BenchTowels();
        line("gym.set(2, 1, 5, 1);", gym.set(2, 1, 5, 1), 0);
        line("gym.set(4, 0, 9, 0);", gym.set(4, 0, 9, 0), 1);
        line("gym.machine(1, 1, 0b101);", gym.machine(1, 1, 0b101), 0);
        line("gym.set(6, 0, 9, 0);", gym.set(6, 0, 9, 0), -1);
        line("gym.again();", gym.again(), -3);
        line("gym.best(4);", gym.best(4), 23);
        line("gym.ith(4, 0);", gym.ith(4, 0), 2);
        line("gym.on(4);", gym.on(4), 21);
        line("gym.minute();", gym.minute(), 6);
        line("gym.state(0);", gym.state(0), 1);
        line("gym.keep();", gym.keep(), 1);
        line("gym.feed(0x65736165207465L << 8 | 's', 8);", gym.feed(0x65736165207465L << 8 | 's', 8), 8);
        line("gym.feed(';', 1);", gym.feed(';', 1), 9);
        line("gym.rules();", gym.rules(), 1);
        line("gym.minute();", gym.minute(), 1);
        line("gym.feed(';', 1);", gym.feed(';', 1), 1);
        line("gym.rules();", gym.rules(), -100);
        line("gym.again();", gym.again(), 2);
        line("gym.state(0);", gym.state(0), 1);
        Due.is("calls that the page shows", Pattern.compile("(?m)^gym\\..*;").matcher(page).results().count(), shown);
    }

    /** A number of the table, and calls that are refused by it. */
    private static void refusal(String number, String name, int want, int... got) {
        String row = "| " + number + " | " + (name.isEmpty() ? "" : "`" + name + "` ") + "| ";
        Due.is("a row of the table with " + number, page.contains("\n" + row) ? 1 : 0, 1);
        for (int i = 0; i < got.length; i++) Due.is("call " + i + " that is refused by " + number, got[i], want);
    }

    private static void refusals() {
        BenchTowels x = new BenchTowels();
        for (int i = 0; i < 6; i++) x.set(1, i, i + 1, 0);
        for (int i = 0; i < 6; i++) x.report(1, 0, 4);
        for (int i = 0; i < 200; i++) x.feed(' ', 1);
        refusal("-1", "BAD", BenchTowels.BAD, x.set(0, 0, 1, 0), x.setOf(6, 0), x.state(8));
        refusal("-2", "FULL", BenchTowels.FULL, x.set(1, 0, 1, 0), x.report(1, 0, 4), x.feed(' ', 1));
        refusal("-3", "NONE", BenchTowels.NONE, x.again(), x.trace(0), x.liar());
        x.sheet(0, 0, 3);
        x.write(0, 2, 9);
        x.minute();
        x.minute();
        x.shelf(0, 0, 1);
        x.change(1, 2, 1);
        x.sheet(1, 3, 3);
        int[] states = {x.ends(1), x.wouldBe(0, 0, 3), x.ends(2), x.minute(), x.lot()};
        refusal("-4", "STATE", BenchTowels.STATE, states[0], states[1], states[3], states[4]);
        refusal("-9", "", -9, x.row(0, 0), x.alterRow(0, 0, 1));
        refusal("-11", "", -11, x.item(2, 0, 0), x.write(2, 0, 1), x.taken(1, 0));
        refusal("-12", "", -12, x.item(0, 0, 3), x.write(0, -1, 1), x.goAll(0, 3, 1));
        refusal("-13", "", -13, x.item(1, 0, 0), x.goAll(1, 0, 1), x.taken(0, 2));
        refusal("-14", "", -14, x.sheet(2, 1, -1));
        refusal("-15", "", -15, x.act(0, 2, 7), x.act(0, 3, 7));
        x.rules();
        refusal("-100 and below", "", -101, Due.rules(x, " ;"));
        Due.is("rows of the table", Pattern.compile("(?m)^\\| -\\d+").matcher(page).results().count(), 11);
    }

    private static void words() {
        Due.is("how many calls an object is used for", page.contains("at most 512 calls") ? 1 : 0, 1);
        Due.is("how to run the tests", page.contains("    bash .ci/run\n") ? 1 : 0, 1);
    }

    /** Each test of the project has its row, and each row its test. */
    private static void tests() throws IOException {
        Matcher row = Pattern.compile("(?m)^\\| (\\w+Test) \\| ").matcher(page);
        int rows = 0;
        while (row.find()) {
            rows++;
            Path file = Path.of("src/test/java", row.group(1) + ".java");
            Due.is("the file of " + row.group(1), Files.exists(file) ? 1 : 0, 1);
        }
        try (var files = Files.list(Path.of("src/test/java"))) {
            Due.is("tests of the project", files.filter(f -> f.toString().endsWith("Test.java")).count(), rows);
        }
    }
}
