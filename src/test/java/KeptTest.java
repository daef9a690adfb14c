/** Promises 51 and 52: gyms kept. */
public final class KeptTest {
    public static void main(String[] args) {
        again();
        twice();
        notKept();
        Due.end("KeptTest");
    }

    private static BenchTowels gym() {
        BenchTowels x = new BenchTowels();
        x.set(2, 1, 8, 1);
        x.set(3, 4, 2, 2);
        x.machine(5, 0, 7);
        x.machine(5, 1, 9);
        x.ends(9);
        x.tire(0, 9);
        x.seed(77);
        x.report(0, 1, 1);
        x.report(15, 4, 4);
        Due.rules(x, "shared if minute > 3 ease; alone wait;");
        x.minute();
        x.minute();
        return x;
    }

    private static void isAsKept(BenchTowels x) {
        int[] state = {2, 9, 11, 0, 0, 7, 2, 0};
        for (int what = 0; what <= 7; what++) Due.is("state(" + what + ")", x.state(what), state[what]);
        int[] first = {2, 1, 8, 1, 1};
        int[] second = {3, 4, 2, 2, 3};
        for (int what = 0; what <= 4; what++) {
            Due.is("setOf(0, " + what + ")", x.setOf(0, what), first[what]);
            Due.is("setOf(1, " + what + ")", x.setOf(1, what), second[what]);
        }
        Due.is("LOAD", x.machineOf(1, 0) * 10 + x.machineOf(5, 0), 87);
        Due.is("TAKEN", x.machineOf(5, 1), 9);
        Due.is("RULES", x.many(1), 2);
        Due.is("WILL", x.setOf(0, 8), 0);
        Due.is("REPORTS", x.many(3), 2);
        Due.is("MEN", x.span(0), 4);
        Due.is("z", x.seed(77), 77);
        Due.is("on(16)", x.on(16), 7);
    }

    // Promises 51 and 52
    private static void again() {
        BenchTowels x = gym();
        Due.is("nothing is kept", x.again(), -3);
        Due.is("keep()", x.keep(), 1);
        isAsKept(x);
        for (int round = 0; round < 2; round++) {
            x.set(1, 1, 1, 1);
            x.change(0, 2, 3);
            x.change(1, 4, 0);
            x.remake(1, 1);
            x.machine(1, 1, 65535);
            x.machine(5, 1, 0);
            x.lot();
            x.tire(0, 1);
            x.anew();
            x.ends(16);
            x.forget();
            x.report(3, 0, 0);
            Due.rules(x, "set wait; set if 1=1 and 2=3 wait; set ease;");
            Due.is("again()", x.again(), 2);
            isAsKept(x);
        }
        x.machine(1, 1, 0);
        for (int i = 0; i < 7; i++) x.minute();
        Due.is("it goes on as ever", x.state(3), 1);
        x.anew();
        Due.is("again(), when OVER", x.again(), 2);
        isAsKept(x);
    }

    private static void twice() {
        BenchTowels x = new BenchTowels();
        x.keep();
        x.set(4, 0, 9, 0);
        x.keep();
        x.set(4, 0, 8, 0);
        Due.is("what was kept latest", x.again(), 1);
        Due.is("its WEIGHT", x.setOf(0, 2), 9);
        Due.is("it stays", x.again(), 1);
        x.change(0, 2, 5);
        Due.is("what is done then changes it not", x.again(), 1);
        Due.is("its WEIGHT", x.setOf(0, 2), 9);
    }

    // Promise 51: what isn't kept stays as it is.
    private static void notKept() {
        BenchTowels x = gym();
        x.keep();
        x.feed(0x20202020L, 4);
        x.prove(3);
        x.sheet(1, 2, 4);
        x.write(1, 2, 1234);
        x.shelf(0, 0, 0);
        x.shelf(1, 1, 1);
        x.act(0, 1, 1);
        x.again();
        Due.is("THE TAPE", x.many(5), 4);
        Due.is("ROWS", x.many(4), 3);
        Due.is("THE READER", x.judge(), 0);
        Due.is("SHEETS", x.item(1, 2, 2), 1234);
        Due.is("SHELVES", x.taken(0, 2) * 10 + x.taken(1, 12), 4);
        Due.is("THE TRACE", x.many(6), 3);
        Due.is("THE TRACE", x.trace(0), 30);
    }
}
