/** Promises 12 and 13: the rules, and the WILL that they tell. */
public final class RulesTest {
    public static void main(String[] args) {
        feed();
        texts();
        faults();
        endFaults();
        wordsAndNumbers();
        spoiltWords();
        staleTape();
        manyTexts();
        parens();
        ninthRule();
        wills();
        facts();
        numbersByMinute();
        precedence();
        deep();
        effects();
        Due.end("RulesTest");
    }

    // Promise 12
    private static void feed() {
        BenchTowels x = new BenchTowels();
        Due.is("feed(0, 0)", x.feed(0, 0), -1);
        Due.is("feed(0, 9)", x.feed(0, 9), -1);
        Due.is("feed(0, -1)", x.feed(0, -1), -1);
        for (int i = 1; i <= 24; i++) Due.is("eight blanks", x.feed(0x2020202020202020L, 8), 8 * i);
        Due.is("193rd to 199th", x.feed(0x2020202020202020L, 7), 199);
        Due.is("two more are too many", x.feed(0x2020L, 2), -2);
        Due.is("how many", x.many(5), 199);
        Due.is("wrong: the first named", x.feed(0x2020L, 9), -1);
        Due.is("the 200th", x.feed(0x20L, 1), 200);
        Due.is("the 201st", x.feed(0x20L, 1), -2);
        Due.is("blanks are no rules", x.rules(), 0);
        Due.is("used up", x.many(5), 0);
        Due.is("only n bytes count, the lowest first", x.feed(0xffffffff746573L, 3), 3);
        Due.feed(x, " wait;");
        Due.is("set wait;", x.rules(), 1);
    }

    // Promise 13: a text is told, and how many rules there are then.
    private static void well(String text, int many) {
        BenchTowels x = new BenchTowels();
        Due.is("'" + text + "'", Due.rules(x, text), many);
        Due.is("'" + text + "': many(1)", x.many(1), many);
        Due.is("'" + text + "': used up", x.many(5), 0);
    }

    private static void fault(String text, int place) {
        BenchTowels x = new BenchTowels();
        Due.rules(x, "set wait; held ease;");
        Due.is("'" + text + "'", Due.rules(x, text), -100 - place);
        Due.is("'" + text + "': the rules stay", x.many(1), 2);
        Due.is("'" + text + "': used up", x.many(5), 0);
    }

    private static void texts() {
        well("", 0);
        well("   ", 0);
        well("set lift;", 1);
        well("  held   ease  ;  ", 1);
        well("unasked wait;alone if 1<2 lift;", 2);
        well("shared if minute=0lift;", 1);
        well("paired if 0<1or 2>1and 3=3wait;", 1);
        well("set if not not not weight < 9999 ease;", 1);
        well("set if(left>1)lift;", 1);
        well("set if (((1=1))) lift;", 1);
        well("set if not(not(not(number=number)))lift;", 1);
        well("set if (1=1) and (2=2) or (3=3) lift;", 1);
        well("set if tired > weight or left < number wait;", 1);
    }

    private static void faults() {
        fault(";", 0);
        fault("lift;", 0);
        fault("1 lift;", 0);
        fault("  benches lift;", 2);
        fault("set;", 3);
        fault("set set;", 4);
        fault("set if;", 6);
        fault("set if lift;", 7);
        fault("set if 1 lift;", 9);
        fault("set if 1 < lift;", 11);
        fault("set if 1 < < 2 lift;", 11);
        fault("set if 1 < 2 < 3 lift;", 13);
        fault("set if 1 < 2 and lift;", 17);
        fault("set if 1 < 2 3 lift;", 13);
        fault("set if and 1 < 2 lift;", 7);
        fault("set if not lift;", 11);
        fault("set if 1 not < 2 lift;", 9);
        fault("set if 1 < not 2 lift;", 11);
        fault("set if (1) lift;", 9);
        fault("set if () lift;", 8);
        fault("set if 1 < 2) lift;", 12);
        fault("set if (1 < 2 lift;", 14);
        fault("set if (1 < 2;", 13);
        fault("set if (1 < 2) < 3 lift;", 15);
        fault("set lift", 8);
        fault("set lift lift;", 9);
        fault("set lift;;", 9);
        fault("set lift; 7", 10);
        fault("set lift.", 8);
        fault("set\tlift;", 3);
        fault("set lift;\n", 9);
        fault("set \u00e4lift;", 4);
        fault("set \0lift;", 4);
        fault("Set lift;", 0);
        fault("set if 1 <= 2 lift;", 10);
        fault("set if -1 < 2 lift;", 7);
    }

    private static void endFaults() {
        fault("set", 3);
        fault("set   ", 6);
        fault("set if", 6);
        fault("set if not", 10);
        fault("set if (", 8);
        fault("set if 1", 8);
        fault("set if 1 <", 10);
        fault("set if 1 < 2", 12);
        fault("set if 1 < 2 and  ", 18);
        fault("set if (1 < 2)", 14);
        fault("set wait; alone ease", 20);
        String full = ("set wait; " + " ".repeat(200)).substring(0, 196) + " set";
        fault(full, 200);
        fault(";".repeat(200), 0);
        fault("set if" + "(".repeat(194), 9);
        fault("set if " + "1".repeat(193), 7);
        fault(" ".repeat(190) + "set if 123", 200);
        well(" ".repeat(191) + "set ease;", 1);
        well("set if 1=1" + " and 1=1".repeat(22) + " wait    ;", 1);
        well("set if " + "not ".repeat(46) + "1=1 wait;", 1);
    }

    private static void wordsAndNumbers() {
        fault("sets lift;", 0);
        fault("se t lift;", 0);
        fault("setlift;", 0);
        fault("set liftwait;", 4);
        fault("unaskedly lift;", 0);
        fault("unaske lift;", 0);
        fault("set if numbers = 1 lift;", 7);
        fault("set if 10000 > 1 lift;", 7);
        fault("set if 00001 > 1 lift;", 7);
        fault("set if 1 < 123456789012345678901234567890 lift;", 11);
        fault("set 12345 lift;", 4);
        fault("set if 1 < 2 99999 lift;", 13);
        fault("set if 1 2 < 3 lift;", 9);
        well("set if 0000 < 0001 lift;", 1);
        well("set if 9999 > left lift;", 1);
    }

    // Each word with one letter that is another, or one less, or one more.
    private static void spoiltWords() {
        String[] texts = {"set lift;", "alone lift;", "shared lift;", "paired lift;", "held lift;", "unasked lift;",
            "set ease;", "set wait;", "set if 1=1 lift;", "set if 1=1 or 1=1 lift;", "set if 1=1 and 1=1 lift;",
            "set if not 1=1 lift;", "set if minute=1 lift;", "set if weight=1 lift;", "set if tired=1 lift;",
            "set if left=1 lift;", "set if number=1 lift;"};
        for (String text : texts) {
            well(text, 1);
            int from = 0;
            for (int i = 0; i < text.length(); i++) {
                if (!Character.isLetter(text.charAt(i))) {
                    from = i + 1;
                    continue;
                }
                fault(text.substring(0, i) + "z" + text.substring(i + 1), from);
                fault(text.substring(0, i) + "z" + text.substring(i), from);
                fault(text.substring(0, i) + text.substring(i + 1), from);
            }
        }
        fault("setz lift;", 0);
        fault("set liftz;", 4);
    }

    private static void parens() {
        fault("set if ((((1=1)))) lift;", 10);
        fault("set if (1=1 and (2=2 or not(3=3 and (4=4)))) lift;", 36);
        well("set if (((1=1)) and ((2=2))) and (((3=3))) lift;", 1);
        fault("set if (((1=1)) lift;", 16);
        fault("set if )1=1 lift;", 7);
        fault("set if 1=1 if;", 11);
        fault("set if (1=1) if lift;", 13);
    }

    // What an earlier, longer text left behind on THE TAPE counts nothing.
    private static void staleTape() {
        BenchTowels x = new BenchTowels();
        Due.rules(x, "set if 1111111111 = 1 lift;");
        Due.is("a NUMBER at the end", Due.rules(x, "set if 1"), -108);
        Due.rules(x, "set if 1 < 99999999 lift;");
        Due.is("a NUMBER at the end", Due.rules(x, "set if 1 < 99"), -113);
        Due.rules(x, "setsetsetset lift;");
        Due.is("a NAME at the end", Due.rules(x, "set"), -103);
        Due.rules(x, "set lift;;;;;");
        Due.is("a RULE at the end", Due.rules(x, "set lift;"), 1);
    }

    // Texts told one behind the other leave nothing of each other.
    private static void manyTexts() {
        BenchTowels x = Due.ofEachKind(6);
        for (int i = 0; i < 30; i++) {
            Due.rules(x, "set if 1=2 or 1=2 or 1=2 or 1=2 or 1=2 or 1=2 or 1=2 or 1=1 wait;");
            Due.is("the text for the " + i + "th time", x.setOf(0, 8), 2);
        }
    }

    private static void ninthRule() {
        String eight = "set lift;held wait;set lift;held wait;set lift;held wait;set lift;held wait;";
        well(eight, 8);
        well(eight + "   ", 8);
        fault(eight + " set lift;", eight.length() + 1);
        fault(eight + "set", eight.length());
        fault(eight + "1", eight.length());
        fault(eight + ";", eight.length());
    }

    private static void will(String text, int... due) {
        BenchTowels x = Due.ofEachKind(6);
        Due.rules(x, text);
        for (int s = 0; s < due.length; s++) Due.is("'" + text + "': WILL of " + s, x.setOf(s, 8), due[s]);
    }

    // By KIND: 0 alone, 1 shared, 2 paired, 3 held, 4 unasked.
    private static void wills() {
        will("", 0, 0, 0, 0, 0);
        will("set ease;", 1, 1, 1, 1, 1);
        will("alone ease;", 1, 0, 0, 0, 0);
        will("shared ease;", 0, 1, 1, 0, 0);
        will("paired wait;", 0, 0, 2, 0, 0);
        will("held wait;", 0, 0, 0, 2, 2);
        will("unasked wait;", 0, 0, 0, 0, 2);
        will("unasked lift; held wait; set ease;", 1, 1, 1, 2, 0);
        will("set ease; held wait;", 1, 1, 1, 1, 1);
        will("set if number > 2 wait; set if number > 0 ease;", 0, 1, 1, 2, 2);
        will("set if 1 > 2 wait;", 0, 0, 0, 0, 0);
        will("set if 1 > 2 wait; paired ease;", 0, 0, 1, 0, 0);
    }

    private static void facts() {
        BenchTowels x = Due.ofEachKind(6);
        Due.rules(x, "set if minute = 1 and weight = 6 and tired = 4 and left = 2 and number = 1 wait;");
        Due.is("not in MINUTE 0", x.setOf(1, 8), 0);
        x.change(0, 4, 0);
        x.change(1, 4, 0);
        x.minute();
        x.change(1, 4, 2);
        Due.is("not TIRED", x.setOf(1, 8), 0);
        x.tire(1, 4);
        Due.is("all as told", x.setOf(1, 8), 2);
        x.change(1, 3, 0);
        Due.is("another MUSCLE", x.setOf(1, 8), 0);
        x.change(1, 3, 1);
        x.change(1, 2, 5);
        Due.is("another WEIGHT", x.setOf(1, 8), 0);
        x.change(1, 2, 6);
        x.change(1, 4, 3);
        Due.is("another LEFT", x.setOf(1, 8), 0);
        x.change(1, 4, 2);
        x.change(4, 4, 2);
        Due.is("another number, same MUSCLE", x.setOf(4, 8), 0);
        Due.is("all as told again", x.setOf(1, 8), 2);
    }

    private static void numbersByMinute() {
        BenchTowels x = Due.ofEachKind(6);
        x.ends(16);
        for (int s = 0; s < 5; s++) x.change(s, 4, 0);
        for (int t = 0; t < 16; t++) {
            Due.rules(x, "set if minute = " + t + " ease;");
            Due.is("minute = " + t, x.setOf(0, 8), 1);
            Due.rules(x, "set if minute < " + t + " or minute > 0" + t + " wait; set if 00" + t + "=minute ease;");
            Due.is("minute = 00" + t, x.setOf(0, 8), 1);
            x.minute();
        }
    }

    private static void precedence() {
        will("set if 1=1 or 1=2 and 1=2 wait;", 2);
        will("set if 1=2 and 1=2 or 1=1 wait;", 2);
        will("set if (1=1 or 1=2) and 1=2 wait;", 0);
        will("set if not 1=2 and 1=2 wait;", 0);
        will("set if not (1=2 and 1=2) wait;", 2);
        will("set if not 1=1 or 1=1 wait;", 2);
        will("set if not not 1=1 wait;", 2);
        will("set if not not not 1=1 wait;", 0);
        will("set if not (1=1) wait;", 0);
        will("set if 1=2 or 1=2 or 1=1 wait;", 2);
        will("set if 1=1 and 1=1 and 1=2 wait;", 0);
        will("set if 1<2 wait;", 2);
        will("set if 2<1 wait;", 0);
        will("set if 1<1 wait;", 0);
        will("set if 2>1 wait;", 2);
        will("set if 1>1 wait;", 0);
        will("set if 0010=10 wait;", 2);
        will("set if 6 = weight wait;", 2);
        will("set if 7 = weight wait;", 0);
        will("set if 0 = minute and 0 = tired and 3 = left and 1 = number wait;", 0, 2, 0, 0, 0);
        will("set if minute < weight and tired < left and number = minute wait;", 2, 0, 0, 0, 0);
        will("set if 9998<9999 wait;", 2);
    }

    private static void deep() {
        will("set if 0=1 or 1=1 and (0=1 or 1=1 and (0=1 or 1=1 and (0=1 or 1=1 and not 0=1))) wait;", 2);
        will("set if 0=1 or 1=1 and (0=1 or 1=1 and (0=1 or 1=1 and (0=1 or 1=1 and not 1=1))) wait;", 0);
        StringBuilder many = new StringBuilder("set if 0=1");
        while (many.length() < 190) many.append("or 0=1");
        will(many + " wait;", 0);
        will(many.substring(0, many.length() - 1) + "0 wait;", 2);
        StringBuilder nots = new StringBuilder("set if not ");
        while (nots.length() < 180) nots.append("not not ");
        will(nots + "0=1 wait;", 2);
        BenchTowels x = Due.ofEachKind(6);
        Due.rules(x, "set if 1=1 wait; held ease; alone if 1=2 lift;");
        Due.is("no rules", Due.rules(x, ""), 0);
        Due.is("all in place of all", x.setOf(3, 8), 0);
        Due.rules(x, "alone if 5=5 ease;");
        Due.is("steps of others are gone", x.setOf(0, 8) * 10 + x.setOf(3, 8), 10);
    }

    // What a MINUTE does by lift, ease and wait.
    private static void effects() {
        BenchTowels x = new BenchTowels();
        x.set(2, 0, 9, 0);
        x.set(2, 1, 9, 0);
        x.tire(0, 2);
        Due.rules(x, "shared if number = 0 ease;");
        Due.is("ease: (8 - 2 - 3) / 2", x.minute(), 1);
        Due.is("ease: 1 more TIRED", x.state(5), 3);
        Due.is("ease: 1 less LEFT", x.setOf(0, 4), 2);
        Due.is("ease: LOAD", x.machineOf(0, 0), 9);
        Due.rules(x, "shared wait;");
        Due.is("wait: nothing", x.minute(), 0);
        Due.is("wait: no SET was done, it rests", x.state(5), 2);
        Due.is("wait: LEFT", x.setOf(0, 4), 2);
        Due.is("wait: it is told all the same, no other is", x.setOf(1, 4), 3);
        Due.is("wait: when() never", x.when(0), -3);
        Due.is("wait: best", x.best(2), 0);
        Due.is("wait: all plans are as good", x.ways(2), 9);
        Due.is("wait: not done in a plan", x.train(2, 1), -3);
        Due.is("wait: barred", x.bars(2, 3), 0);
        Due.rules(x, "");
        x.tire(0, 9);
        x.change(0, 4, 1);
        Due.is("0 at least", x.minute(), 0);
        Due.is("9 at most", x.state(5), 9);
        Due.is("LEFT", x.state(4), 1);
        x.machine(1, 0, 1);
        x.tire(0, 0);
        Due.is("8 less 8 / 3", x.minute(), 6);
        Due.is("1 more TIRED", x.state(5), 1);
    }
}
