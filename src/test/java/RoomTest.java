import java.lang.management.ManagementFactory;
import java.util.function.IntConsumer;

/** LANGUAGE.md and the room that all calls share: what an object makes, and that calls make next to nothing more. */
public final class RoomTest {
    private static final com.sun.management.ThreadMXBean THREADS =
        (com.sun.management.ThreadMXBean) ManagementFactory.getThreadMXBean();

    public static void main(String[] args) {
        made("new BenchTowels()", 60_000, i -> new BenchTowels());
        BenchTowels x = Due.ofEachKind(9);
        x.set(3, 0, 1, 1);
        x.report(0, 0, 0);
        x.report(15, 4, 4);
        x.ends(16);
        x.sheet(0, 0, 20);
        x.shelf(0, 0, 2);
        calls("best", i -> x.best(4));
        calls("train", i -> x.train(4, 63));
        calls("game", i -> x.game(4));
        calls("times", i -> x.times(40, 1));
        calls("weightFor", i -> x.weightFor(i % 6));
        calls("gathered", i -> x.gathered(63, i % 6));
        calls("liar", i -> x.liar());
        calls("prove", i -> x.prove(4) * x.judge());
        calls("rules", i -> Due.rules(x, "set if not (minute < 3 or (left = 2 and weight > 4)) ease; held wait;"));
        calls("keep", i -> x.keep() * x.again());
        calls("sheet", i -> x.sheet(i % 4, i % 5, 40));
        calls("wouldBe", i -> x.wouldBe(0, 0, 16));
        calls("act", i -> x.act(0, 3, i));
        Due.end("RoomTest");
    }

    private interface Call {
        int ask(int i);
    }

    private static void calls(String what, Call call) {
        made("512 calls of " + what, 4_000, i -> {
            for (int j = 0; j < 512; j++) call.ask(j);
        });
    }

    // The machine itself makes a little the first time: the least of some rounds is what the program makes.
    private static void made(String what, long most, IntConsumer run) {
        long least = Long.MAX_VALUE;
        for (int i = 0; i < 5; i++) {
            long before = THREADS.getThreadAllocatedBytes(Thread.currentThread().getId());
            run.accept(i);
            least = Math.min(least, THREADS.getThreadAllocatedBytes(Thread.currentThread().getId()) - before);
        }
        Due.is(what + " make more than " + most + " bytes (" + least + ")", least > most ? 1 : 0, 0);
    }
}
