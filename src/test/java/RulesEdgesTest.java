/** Promises 12 and 13, by the sentences of the document that name an edge. */
public final class RulesEdgesTest {
    public static void main(String[] args) {
        feed();
        feedFull();
        howMany();
        inPlaceOfAll();
        usedUp();
        kindsAndDos();
        conditions();
        numbers();
        facts();
        names();
        rowsOfDigits();
        blanks();
        parens();
        ninth();
        ends();
        places();
        Due.end("RulesEdgesTest");
    }

    private static void feed() {
        Due.by(12, "n bytes (1 to 8) come to THE TAPE, the lowest of eight first: how many it has.");
        Edges.bounds("feed(0, v)", Edges::busy, (x, v) -> x.feed(0, v), 1, 8, -1);
        for (int n = 1; n <= 8; n++) {
            BenchTowels x = new BenchTowels();
            Due.is("feed(.., " + n + ") on an empty TAPE", x.feed(-1, n), n);
            Due.is("feed(.., " + n + ") once more", x.feed(-1, n), 2 * n);
            Due.is("many(5)", x.many(5), 2 * n);
        }
        String text = "set wait;";
        for (int n = 1; n <= 8; n++) {
            BenchTowels x = new BenchTowels();
            for (int i = 0; i < text.length(); i += n) {
                int some = Math.min(n, text.length() - i);
                // What stands above the n lowest bytes counts nothing.
                long eight = some < 8 ? -1L << 8 * some : 0;
                for (int j = 0; j < some; j++) eight |= (long) text.charAt(i + j) << 8 * j;
                x.feed(eight, some);
            }
            Due.is("rules() of a text in parts of " + n, x.rules(), 1);
        }
    }

    private static BenchTowels taped(int many) {
        BenchTowels x = new BenchTowels();
        x.set(1, 0, 1, 0);
        Due.feed(x, ("set wait;" + " ".repeat(200)).substring(0, many));
        return x;
    }

    private static void feedFull() {
        Due.by(12, "FULL: more than 200.");
        BenchTowels x = new BenchTowels();
        for (int i = 1; i <= 200; i++) Due.is("feed() of one byte", x.feed(32, 1), i);
        Due.is("feed() of one more", x.feed(32, 1), -2);
        Due.is("many(5)", x.many(5), 200);
        for (int n = 1; n <= 8; n++) {
            int many = n;
            Due.is("feed(.., " + n + ") up to 200", taped(200 - n).feed(0x2020202020202020L, n), 200);
            Edges.still("feed(.., " + n + ") up to 201", () -> taped(201 - many), y -> y.feed(0x2020202020202020L, many), -2);
        }
        Edges.still("feed(.., 8) on 200", () -> taped(200), y -> y.feed(0, 8), -2);
        Due.is("the text that stands there", taped(200).rules(), 1);
        Due.by(12, "of several the first named");
        for (int n : new int[] {0, 9, -1, Edges.MIN, Edges.MAX}) {
            Edges.still("feed(.., " + n + ") on 200", () -> taped(200), y -> y.feed(0, n), -1);
        }
    }

    /** The text tells so many RULES, in place of those of busy, and is used up. */
    private static void well(String text, int due) {
        BenchTowels x = new BenchTowels();
        Due.rules(x, "held ease; paired wait;");
        Due.is("rules() of '" + text + "'", Due.rules(x, text), due);
        Due.is("many(1) by '" + text + "'", x.many(1), due);
        Due.is("many(5) behind '" + text + "'", x.many(5), 0);
    }

    /** The text has its FAULT at the place; the RULES stay, THE TAPE is used up. */
    private static void fault(String text, int place) {
        BenchTowels x = Due.ofEachKind(5);
        Due.rules(x, "held ease; paired wait;");
        Due.is("rules() of '" + text + "'", Due.rules(x, text), -100 - place);
        Due.is("many(1) behind '" + text + "'", x.many(1), 2);
        Due.is("many(5) behind '" + text + "'", x.many(5), 0);
        int[] will = {0, 0, 2, 1, 1};
        for (int s = 0; s < 5; s++) Due.is("WILL of " + s + " behind '" + text + "'", x.setOf(s, 8), will[s]);
    }

    private static void howMany() {
        Due.by(13, "THE TAPE tells THE RULES (in place of all): how many; -100 less its FAULT.");
        for (int many = 0; many <= 8; many++) well("set lift;".repeat(many), many);
        well(" ", 0);
        well(" ".repeat(200), 0);
        well("alone wait;" + " ".repeat(189), 1);
        well(" ".repeat(189) + "alone wait;", 1);
        fault("x", 0);
        fault(" ".repeat(199) + "x", 199);
        fault("set" + " ".repeat(197), 200);
    }

    private static void inPlaceOfAll() {
        Due.by(13, "THE TAPE tells THE RULES (in place of all)");
        BenchTowels x = Due.ofEachKind(5);
        Due.rules(x, "set if 1=1 and (2=2 or 3=4) wait;".repeat(5));
        Due.rules(x, "alone ease;");
        int[] will = {1, 0, 0, 0, 0};
        for (int s = 0; s < 5; s++) Due.is("WILL of " + s + " by one in place of five", x.setOf(s, 8), will[s]);
        for (int i = 0; i < 10; i++) {
            Due.is("rules() of a long text for the " + i + "th time", Due.rules(x, "set if " + "1=2 or ".repeat(25) + "1=1 wait;"), 1);
            Due.is("WILL by it", x.setOf(0, 8), 2);
        }
        Due.is("rules() of an empty TAPE", x.rules(), 0);
        for (int s = 0; s < 5; s++) Due.is("WILL of " + s + " without RULES", x.setOf(s, 8), 0);
    }

    private static void usedUp() {
        Due.by(13, "such a call changes nothing (but that THE TAPE is used up by rules())");
        BenchTowels x = Edges.busy();
        x.feed(';', 1);
        Due.is("rules() of 'held wait;;'", x.rules(), -110);
        Due.is("many(5)", x.many(5), 0);
        Due.is("many(1)", x.many(1), 2);
        Due.is("rules() once more", x.rules(), 0);
        Edges.still("a FAULT on an empty gym", BenchTowels::new, y -> Due.rules(y, "lift;"), -100);
        Edges.still("a FAULT in the eighth RULE", BenchTowels::new, y -> Due.rules(y, "set lift;".repeat(7) + "set if 1=1;"), -173);
        x = Due.ofEachKind(5);
        x.keep();
        Due.rules(x, "set wait;");
        Due.rules(x, "set ease; set ease; x");
        Due.is("WILL behind a FAULT", x.setOf(0, 8), 2);
        Due.is("many(1) behind a FAULT", x.many(1), 1);
    }

    private static void kindsAndDos() {
        Due.by(13, "KIND: set | alone | shared | paired | held | unasked. DO: lift | ease | wait.");
        String[] dos = {"lift", "ease", "wait"};
        String[] kinds = {"alone", "shared", "paired", "held", "unasked"};
        for (int k = 0; k < 5; k++) {
            for (int d = 0; d < 3; d++) {
                BenchTowels x = Due.ofEachKind(5);
                Due.rules(x, kinds[k] + " " + dos[d] + ";");
                Due.is("WILL by '" + kinds[k] + " " + dos[d] + ";'", x.setOf(k, 8), d);
                Due.rules(x, "set " + dos[d] + ";");
                Due.is("WILL by 'set " + dos[d] + ";'", x.setOf(k, 8), d);
            }
        }
        for (String word : new String[] {"lift", "ease", "wait", "if", "or", "and", "not", "minute", "weight", "tired", "left", "number"}) {
            fault(word + " lift;", 0);
        }
        for (String word : new String[] {"set", "alone", "shared", "paired", "held", "unasked", "or", "and", "not", "minute", "number"}) {
            fault("set " + word + ";", 4);
        }
        for (String word : new String[] {"set", "unasked", "if", "not", "minute", "number"}) fault("set if 1=1 " + word + ";", 11);
    }

    private static void holds(String condition, int due) {
        BenchTowels x = new BenchTowels();
        x.set(2, 0, 6, 0);
        Due.is("rules() of 'set if " + condition + " wait;'", Due.rules(x, "set if " + condition + " wait;"), 1);
        Due.is("whether '" + condition + "' holds", x.setOf(0, 8) == 2 ? 1 : 0, due);
    }

    private static void conditions() {
        Due.by(13, "COND: ALL { or ALL } ALL: ONE { and ONE } ONE: { not } ( VALUE SIGN VALUE | \"(\" COND \")\" )");
        holds("1=1", 1);
        holds("1=2", 0);
        holds("not 1=1", 0);
        holds("not 1=2", 1);
        holds("not not 1=1", 1);
        holds("1=1 or 1=1 and 1=2", 1);
        holds("1=2 and 1=1 or 1=1", 1);
        holds("(1=1 or 1=1) and 1=2", 0);
        holds("1=2 and (1=1 or 1=1)", 0);
        holds("not 1=2 or 1=1", 1);
        holds("not 1=1 or 1=1", 1);
        holds("not (1=1 or 1=1)", 0);
        holds("not 1=2 and 1=2", 0);
        holds("not (1=2 and 1=2)", 1);
        holds("1=1 and not 1=2", 1);
        holds("1=2 or not not not 1=2", 1);
        holds("1=2 or 1=2 or 1=1", 1);
        holds("1=1 and 1=1 and 1=2", 0);
        holds("1=1 and 1=2 or 1=2 and 1=1", 0);
        Due.by(13, "SIGN: < | = | >");
        String[] signs = {"<", "=", ">"};
        for (int s = 0; s < 3; s++) {
            holds("6" + signs[s] + "7", s == 0 ? 1 : 0);
            holds("6" + signs[s] + "6", s == 1 ? 1 : 0);
            holds("7" + signs[s] + "6", s == 2 ? 1 : 0);
            holds("weight" + signs[s] + "7", s == 0 ? 1 : 0);
            holds("weight" + signs[s] + "6", s == 1 ? 1 : 0);
            holds("weight" + signs[s] + "5", s == 2 ? 1 : 0);
        }
        fault("set if 1 ? 2 lift;", 9);
        fault("set if 1 ; 2 lift;", 9);
        fault("set if 1 : 2 lift;", 9);
    }

    private static void numbers() {
        Due.by(13, "N are NUMBERS 0 to 9999.");
        holds("0 = minute", 1);
        holds("0000 = 0", 1);
        holds("0 > 0", 0);
        holds("9999 > 9998", 1);
        holds("9999 = 9999", 1);
        holds("9998 > 9999", 0);
        holds("9999 < 9999", 0);
        holds("0006 = weight", 1);
        holds("6000 = weight", 0);
        holds("1000 > 999", 1);
        holds("0100 < 99", 0);
        Due.by(13, "NUMBERS rows of digits (1 to 4)");
        well("set if 1 = 12 lift;", 1);
        well("set if 123 = 1234 lift;", 1);
        fault("set if 12345 = 1 lift;", 7);
        fault("set if 00000 = 1 lift;", 7);
        fault("set if 1 = 12345 lift;", 11);
        fault("set if 1 = " + "1".repeat(189), 11);
        fault("set if 1 = 1234 5 lift;", 16);
        fault("12345", 0);
    }

    private static void facts() {
        Due.by(13, "FACTS: the MINUTE that goes by; its WEIGHT; how TIRED its MUSCLE is; what is LEFT; its number.");
        String[] facts = {"minute", "weight", "tired", "left", "number"};
        // The last of six SETS in MINUTE 15, then the first of them in MINUTE 0; each fact at its most and its least.
        for (int f = 0; f < 5; f++) {
            int[] most = {15, 9, 9, 9, 5};
            int[] least = {0, 1, 0, 0, 0};
            for (int other = 0; other < 5; other++) {
                BenchTowels x = ends(15);
                Due.rules(x, "set if " + facts[f] + " = " + most[other] + " wait;");
                Due.is("'" + facts[f] + "' at its most = " + most[other], x.setOf(5, 8), most[f] == most[other] ? 2 : 0);
                x = ends(0);
                Due.rules(x, "set if " + facts[f] + " = " + least[other] + " wait;");
                Due.is("'" + facts[f] + "' at its least = " + least[other], x.setOf(0, 8), least[f] == least[other] ? 2 : 0);
            }
            BenchTowels x = Edges.busy();
            // SET 4: MINUTE 3, WEIGHT 4, MUSCLE 1, number 4; made TIRED 6, LEFT 8.
            x.tire(1, 6);
            x.change(4, 4, 8);
            int[] due = {3, 4, 6, 8, 4};
            for (int v = 0; v <= 9; v++) {
                Due.rules(x, "set if " + facts[f] + " = " + v + " wait; set ease;");
                Due.is("'" + facts[f] + "' = " + v, x.setOf(4, 8), v == due[f] ? 2 : 1);
            }
        }
    }

    private static BenchTowels ends(int minute) {
        BenchTowels x = new BenchTowels();
        x.ends(16);
        for (int t = 0; t < minute; t++) x.minute();
        for (int s = 0; s < 6; s++) x.set(2, 0, minute > 0 ? 9 : 1, 1);
        for (int s = 0; s < 6; s++) x.change(s, 4, minute > 0 ? 9 : 0);
        x.tire(1, minute > 0 ? 9 : 0);
        return x;
    }

    private static void names() {
        Due.by(13, "NAMES are rows of letters a to z");
        fault("set`lift;", 3);
        fault("set{lift;", 3);
        fault("seta lift;", 0);
        fault("setz lift;", 0);
        fault("aset lift;", 0);
        fault("zset lift;", 0);
        fault("set lifta;", 4);
        fault("set liftz;", 4);
        fault("a", 0);
        fault("z", 0);
        fault("set lift`;", 8);
        fault("set lift{;", 8);
        fault("set Lift;", 4);
        fault("SET lift;", 0);
        fault("A", 0);
        fault("Z", 0);
        fault("@", 0);
        fault("[", 0);
        fault("\u00e1lone lift;", 0);
        fault("alon\u00e5 lift;", 0);
        fault("set lif\u00f4;", 4);
        fault("set if 1=1 and not an 1=1 lift;", 19);
        String[] words = {"set lift;", "alone ease;", "shared wait;", "paired if minute=1 and weight=1 lift;", "held if not tired=1 or left=1 lift;",
            "unasked if number=1 lift;"};
        for (String text : words) {
            well(text, 1);
            int first = 0;
            for (int i = 0; i < text.length(); i++) {
                if (!Character.isLetter(text.charAt(i))) first = i + 1;
                else fault(text.substring(0, i) + (text.charAt(i) == 'a' ? 'b' : 'a') + text.substring(i + 1), first);
            }
        }
        Due.by(13, "both as long as they go");
        for (int letters = 1; letters <= 200; letters++) {
            fault("x".repeat(letters), 0);
            if (letters > 4 && letters < 192) fault("set if " + "1".repeat(letters), 7);
        }
        fault("setlift;", 0);
        fault("sets lift;", 0);
        fault("set liftset lift;", 4);
        fault("unaskedunasked lift;", 0);
        fault("a".repeat(200), 0);
        fault("set if notnot 1=1 lift;", 7);
        fault("set ifnot 1=1 lift;", 4);
        fault("set if 1=1 andnot 1=1 lift;", 11);
        fault("set if minuteminute=1 lift;", 7);
        well("set if 1=1lift;", 1);
        well("set if 1=1and 2=2or 3=3ease;", 1);
        well("set if(1=1)lift;", 1);
        well("set if not(1=1)and(1=1)wait;", 1);
        fault("set if 1=minute1 lift;", 15);
        fault("set1 lift;", 3);
        fault("1set lift;", 0);
    }

    private static void rowsOfDigits() {
        Due.by(13, "NUMBERS rows of digits (1 to 4), both as long as they go");
        holds("1=01", 1);
        holds("9=09", 1);
        holds("0=00", 1);
        fault("set if 1/2 lift;", 8);
        fault("set if 1:2 lift;", 8);
        fault("set if /=1 lift;", 7);
        fault("set if :=1 lift;", 7);
        fault("set if 1=/ lift;", 9);
        fault("set if 1=: lift;", 9);
        fault("set if 1=\u00b2 lift;", 9);
        fault("set if 1 2=2 lift;", 9);
        fault("set if -1=2 lift;", 7);
        fault("set if 1.5=2 lift;", 8);
    }

    private static void blanks() {
        Due.by(13, "blanks (32) part them, and stand elsewhere as one likes");
        well("set  lift  ;", 1);
        well("   set   if   1   =   1   and   not   (   2   =   2   )   lift   ;   ", 1);
        well("set lift;alone ease;", 2);
        well("set lift ; alone ease ; ", 2);
        well("set if 1=1 lift;", 1);
        for (int c = 0; c < 256; c++) {
            if (c == 32 || c >= 'a' && c <= 'z' || c >= '0' && c <= '9') continue;
            fault("set" + (char) c + "lift;", 3);
            if (c != ';') fault("set lift" + (char) c + ";", 8);
        }
        for (int c : new int[] {0, 9, 10, 13, 31, 33, 127, 128, 160, 255}) {
            fault((char) c + "set lift;", 0);
            fault("set lift;" + (char) c, 9);
            fault("set if 1=1" + (char) c + " lift;", 10);
        }
    }

    private static void parens() {
        Due.by(13, "At most 3 \"(\" are open within one another.");
        well("set if (1=1) lift;", 1);
        well("set if ((1=1)) lift;", 1);
        well("set if (((1=1))) lift;", 1);
        well("set if (((1=1))) and (((1=1))) or (((1=1))) lift;", 1);
        well("set if (((1=1)) and ((1=1) or (1=1))) lift;", 1);
        well("set if not (not (not (not 1=1))) lift;", 1);
        Due.by(13, "the fourth \"(\"");
        fault("set if ((((1=1)))) lift;", 10);
        fault("set if (((1=1) and (1=1 or ((1=1))))) lift;", 27);
        fault("set if 1=1 and ( ( ( not ( 1=1 ) ) ) ) lift;", 25);
        fault("set if (((1=1))) and ((((1=1)))) lift;", 24);
        fault("set if ((((", 10);
        fault("set if (((", 10);
        fault("set if " + "(".repeat(193), 10);
        Due.by(13, "FAULT: the place (from 0) of the first byte of the first NAME, NUMBER or other byte that can't stand there");
        fault("set if (1=1)) lift;", 12);
        fault("set if (((1=1)))) lift;", 16);
        fault("set if ((1=1) lift;", 14);
        fault("set if () lift;", 8);
        fault("set if (1) lift;", 9);
        fault("set if (1=) lift;", 10);
    }

    private static void ninth() {
        Due.by(13, "{ KIND DO ; | KIND if COND DO ; }, 8 RULES at most");
        well("set lift;".repeat(8), 8);
        well("set lift;".repeat(8) + " ".repeat(128), 8);
        well("held if 1=1 wait;".repeat(8), 8);
        Due.by(13, "the first NAME of the ninth RULE");
        fault("set lift;".repeat(8) + "set lift;", 72);
        fault("set lift;".repeat(8) + "   set lift;", 75);
        fault("set lift;".repeat(8) + "unasked", 72);
        fault("set lift;".repeat(8) + "s", 72);
        fault("set lift;".repeat(8) + "7", 72);
        fault("set lift;".repeat(8) + " ;", 73);
        fault("set lift;".repeat(22), 72);
        fault("set lift;".repeat(7) + "set lift", 71);
    }

    private static void ends() {
        Due.by(13, "or the end (how many bytes there are), if more must come");
        String[] parts = {"set", " if", " not", " (", "1", " <", " 2", " and", " 3", "=", "4", ")", " or", " 5", ">", "left", " lift"};
        StringBuilder text = new StringBuilder();
        for (String part : parts) {
            text.append(part);
            fault(text.toString(), text.length());
            fault(text + "   ", text.length() + 3);
        }
        well(text + ";", 1);
        fault("set lift; alone", 15);
        fault("set lift; alone ease", 20);
        fault(" ".repeat(197) + "set", 200);
        fault(" ".repeat(195) + "set i", 199);
        fault(" ".repeat(192) + "set lift", 200);
        well(" ".repeat(191) + "set lift;", 1);
    }

    private static void places() {
        Due.by(13, "the place (from 0) of the first byte of the first NAME, NUMBER or other byte that can't stand there");
        fault(";", 0);
        fault("set;", 3);
        fault("set lift;;", 9);
        fault("set lift lift;", 9);
        fault("set lift alone;", 9);
        fault("set lift 1;", 9);
        fault("set 1 lift;", 4);
        fault("set ease if 1=1;", 9);
        fault("set if lift;", 7);
        fault("set if if 1=1 lift;", 7);
        fault("set if 1 lift;", 9);
        fault("set if 1= lift;", 10);
        fault("set if 1=1;", 10);
        fault("set if 1=1 and lift;", 15);
        fault("set if 1=1 or lift;", 14);
        fault("set if (1=1 or) lift;", 14);
        fault("set if (1=1 and) lift;", 15);
        fault("set if 1=1 or;", 13);
        fault("set if 1=1 and;", 14);
        fault(";".repeat(200), 0);
        fault("set lift;" + ";".repeat(191), 9);
        fault("set if" + "(".repeat(194), 9);
        fault("set if 1=1 or or 1=1 lift;", 14);
        fault("set if 1=1 not 1=1 lift;", 11);
        fault("set if not lift;", 11);
        fault("set if not = 1 lift;", 11);
        fault("set if 1=not 1 lift;", 9);
        fault("set if 1=1=1 lift;", 10);
        fault("set if 1==1 lift;", 9);
        fault("set if 1<>1 lift;", 9);
        fault("set if (1=1)=1 lift;", 12);
        fault("set if 1=(1) lift;", 9);
        fault("set if 1=1 1=1 lift;", 11);
        fault("set if 1=1 (1=1) lift;", 11);
        fault("set if set=1 lift;", 7);
        fault("set if 1=held lift;", 9);
        fault("set if minute lift;", 14);
    }
}
