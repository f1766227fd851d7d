/** Term 2, sentence by sentence: THE TAPE, what a TEXT is, what it is worth, its FAULT, its USES. */
public final class TermsTextsTest {
    private static final String NUMBERS = "0123456789";
    private static final String NAMES = "cphsm";

    public static void main(String[] args) {
        tapeOfBytes();
        alternatives();
        conjunctions();
        comparisons();
        sums();
        products();
        units();
        numbers();
        names();
        noBlanks();
        atMostFiveOpen();
        closedOnesAreNotOpen();
        wraps();
        quotientsAndRests();
        byZero();
        oneOrZero();
        allIsWorkedOut();
        faultOfEachByte();
        endsTooEarly();
        answersHeld();
        answersNames();
        textsInPlaceOfOthers();
        answersWithoutText();
        freshHeld();
        freshNames();
        freshWithoutText();
        Due.end();
    }

    private static void fine(String... texts) {
        for (String text : texts) {
            Due.due("FAULT of " + text, Texts.fault(Texts.ANSWERS, text), -1);
        }
    }

    private static void fault(String text, int place) {
        Due.due("FAULT of " + text, Texts.fault(Texts.ANSWERS, text), place);
    }

    private static void tapeOfBytes() {
        Due.sentence("Term 2: THE TAPE (bytes, at most 60)");
        FathersPay x = new FathersPay();
        for (int i = 1; i <= 59; i++) {
            Due.due("one more byte", x.feed(-1L, 1), i);
        }
        Due.due("two more", x.feed(-1L, 2), Due.FULL);
        Due.due("still 59", x.count(6), 59);
        Due.due("the sixtieth", x.feed(-1L, 1), 60);
        Due.due("the next", x.feed(-1L, 1), Due.FULL);
        Due.due("sixty", x.count(6), 60);
        Due.due("255 begins no TEXT", x.text(0), -10);
        Due.due("none any more", x.count(6), 0);
        Due.due("one again", x.feed(0L, 1), 1);
        String longest = "c" + "+c".repeat(29);
        Due.due("its length", longest.length(), 59);
        fine(longest, "!" + longest, "12" + longest.substring(1));
        Due.due("worth of sixty bytes", Texts.fresh("12" + "+1".repeat(29), 0, 0), 41);
    }

    private static void alternatives() {
        Due.sentence("Term 2: T: A { | A }");
        fine("c", "c|c", "c|c|c|c", "(c|c)|(c)");
        fault("|", 0);
        fault("|c", 0);
        fault("c|", 2);
        fault("c||c", 2);
        fault("c|)", 2);
        Due.due("1|0&0", Texts.fresh("1|0&0", 0, 0), 1);
        Due.due("0|0|7", Texts.fresh("0|0|7", 0, 0), 1);
    }

    private static void conjunctions() {
        Due.sentence("Term 2: A: B { & B }");
        fine("c&c", "c&c&c&c", "c&c|c&c");
        fault("&", 0);
        fault("&c", 0);
        fault("c&", 2);
        fault("c&&c", 2);
        fault("c&|c", 2);
        Due.due("0&0|1", Texts.fresh("0&0|1", 0, 0), 1);
        Due.due("7&7&0", Texts.fresh("7&7&0", 0, 0), 0);
    }

    private static void comparisons() {
        Due.sentence("Term 2: B: S, or S < S, S = S, S > S");
        fine("c<c", "c=c", "c>c", "c<c&c=c|c>c", "(c<c)<c", "c<(c<c)", "c+c<c+c");
        for (String one : new String[] {"<", "=", ">"}) {
            fault(one, 0);
            fault(one + "c", 0);
            fault("c" + one, 2);
            for (String other : new String[] {"<", "=", ">"}) {
                fault("c" + one + other + "c", 2);
                fault("c" + one + "c" + other + "c", 3);
                fault("(c" + one + "c" + other + "c)", 4);
                fine("(c" + one + "c)" + other + "c", "c" + one + "c&c" + other + "c");
            }
        }
        Due.due("1+1=2", Texts.fresh("1+1=2", 0, 0), 1);
        Due.due("3=2+1", Texts.fresh("3=2+1", 0, 0), 1);
        Due.due("1&2>1", Texts.fresh("1&2>1", 0, 0), 1);
    }

    private static void sums() {
        Due.sentence("Term 2: S: P { + P, - P }");
        fine("c+c", "c-c", "c+c-c+c-c");
        fault("+", 0);
        fault("+c", 0);
        fault("-1", 0);
        fault("c+", 2);
        fault("c-", 2);
        fault("c++c", 2);
        fault("c--c", 2);
        fault("c+-c", 2);
        Due.due("9-3-2", Texts.fresh("9-3-2", 0, 0), 4);
        Due.due("9-3+2", Texts.fresh("9-3+2", 0, 0), 8);
    }

    private static void products() {
        Due.sentence("Term 2: P: Q { * Q, / Q, % Q }");
        fine("c*c", "c/c", "c%c", "c*c/c%c*c");
        for (String one : new String[] {"*", "/", "%"}) {
            fault(one, 0);
            fault(one + "c", 0);
            fault("c" + one, 2);
            fault("c" + one + one + "c", 2);
        }
        fault("c*-c", 2);
        Due.due("100/7/2", Texts.fresh("100/7/2", 0, 0), 7);
        Due.due("100/7*7", Texts.fresh("100/7*7", 0, 0), 98);
        Due.due("7*9%10", Texts.fresh("7*9%10", 0, 0), 3);
        Due.due("1+2*3", Texts.fresh("1+2*3", 0, 0), 7);
    }

    private static void units() {
        Due.sentence("Term 2: Q: a NUMBER, a NAME, ! Q, ( T )");
        fine("7", "c", "!7", "!c", "!!c", "!(c)", "(!c)", "(c|c)", "((7))");
        fault("()", 1);
        fault("(c", 2);
        fault("(c))", 3);
        fault(")", 0);
        fault("(c(", 2);
        fault("c(c)", 1);
        fault("(c)c", 3);
        fault("c!", 1);
        fault("!", 1);
        fault("!)", 1);
        fault("!+c", 1);
        Due.due("!0+5", Texts.fresh("!0+5", 0, 0), 6);
        Due.due("!3*7", Texts.fresh("!3*7", 0, 0), 0);
        Due.due("(1+2)*3", Texts.fresh("(1+2)*3", 0, 0), 9);
    }

    private static void numbers() {
        Due.sentence("Term 2: a NUMBER of 1 to 4 digits");
        fine("0", "9", "10", "999", "0000", "0009", "9999", "1234+5678");
        fault("10000", 4);
        fault("00000", 4);
        fault("99999", 4);
        fault("c+12345", 6);
        fault("!12345", 5);
        fault("(12345)", 5);
        Due.due("0", Texts.fresh("0", 0, 0), 0);
        Due.due("9", Texts.fresh("9", 0, 0), 9);
        Due.due("0010", Texts.fresh("0010", 0, 0), 10);
        Due.due("9999", Texts.fresh("9999", 0, 0), 9999);
        Due.due("9876", Texts.fresh("9876", 0, 0), 9876);
    }

    private static void names() {
        Due.sentence("Term 2: a NAME (of its USE alone, of one sign)");
        for (char b = 'A'; b <= 'z'; b++) {
            boolean isSign = b == '|' || b == '(' || b == '!';
            Due.due("as ANSWERS: " + b, Texts.fault(Texts.ANSWERS, "" + b), isSign ? 0 : NAMES.indexOf(b) >= 0 ? -1 : 0);
            Due.due("as FRESH: " + b, Texts.fault(Texts.FRESH, "" + b), isSign ? 0 : "phn".indexOf(b) >= 0 ? -1 : 0);
        }
        fault("cc", 1);
        fault("c1", 1);
        fault("1c", 1);
    }

    private static void noBlanks() {
        Due.sentence("Term 2: No blanks");
        for (char blank : new char[] {' ', '\t', '\n', '\r', 0, 160}) {
            fault(blank + "c", 0);
            fault("c" + blank, 1);
            fault("c" + blank + "+c", 1);
            fault("c+" + blank + "c", 2);
            fault("!" + blank + "c", 1);
            fault("(" + blank + "c)", 1);
            fault("(c" + blank + ")", 2);
            fault("1" + blank + "1", 1);
        }
    }

    /** So many of ! and ( as the bits tell, something, and what closes them. */
    private static String opened(int bits, int many, String within) {
        StringBuilder text = new StringBuilder();
        StringBuilder closing = new StringBuilder();
        for (int i = 0; i < many; i++) {
            boolean isOpening = (bits >> i & 1) == 1;
            text.append(isOpening ? '(' : '!');
            closing.append(isOpening ? ")" : "");
        }
        return text.append(within).append(closing).toString();
    }

    private static void atMostFiveOpen() {
        Due.sentence("Term 2: At most 5 of ! and ( are open at once");
        for (int bits = 0; bits < 32; bits++) {
            fine(opened(bits, 5, "c"), opened(bits, 5, "9999"));
            fault(opened(bits, 5, "!c"), 5);
            fault(opened(bits, 5, "(c)"), 5);
            fault(opened(bits, 5, ""), 5);
        }
        for (int bits = 0; bits < 64; bits++) {
            fault(opened(bits, 6, "c"), 5);
        }
        Due.due("!!!!!5", Texts.fresh("!!!!!5", 0, 0), 0);
        Due.due("!!!!!0", Texts.fresh("!!!!!0", 0, 0), 1);
        Due.due("(((((7)))))", Texts.fresh("(((((7)))))", 0, 0), 7);
    }

    private static void closedOnesAreNotOpen() {
        Due.sentence("Term 2: At most 5 of ! and ( are open at once (closed ones no more)");
        fine("(((((c)))))+(((((c)))))", "!!!!!c*!!!!!c", "((((!c+!c+(c)*(c)))))", "((((" + "(c)+(c)" + "))))",
            "((((!c))))|((((!c))))", "(!!!!c&!!!!c)", "(c)+(c)+(c)+(c)+(c)+(c)+(c)", "!c+!c+!c+!c+!c+!c+!c", "!(!(!c)+!(!c)+(!(c)))");
        fault("(((((c)))))+((((((", 17);
        fault("(((((c)))))+!!!!!!", 17);
        fault("((((c)+(((", 9);
        fault("(!!!!c+!!!!!c)", 11);
    }

    private static void wraps() {
        Due.sentence("Term 2: Ints that wrap");
        Due.due("2 ** 31 is below 0", Texts.fresh("4096*4096*128<0", 0, 0), 1);
        Due.due("2 ** 31 - 1 is not", Texts.fresh("4096*4096*128-1>0", 0, 0), 1);
        Due.due("and wraps by 1", Texts.fresh("4096*4096*128-1+1<0", 0, 0), 1);
        Due.due("it is less than 0 - it", Texts.fresh("4096*4096*128=0-4096*4096*128", 0, 0), 1);
        Due.due("2 ** 32 is 0", Texts.fresh("4096*4096*256=0", 0, 0), 1);
        Due.due("2 ** 32 + 5", Texts.fresh("4096*4096*256+5", 0, 0), 5);
        Due.holds("9999 ** 3", Texts.isWorth("9999*9999*9999%9999", 9999 * 9999 * 9999 % 9999));
    }

    private static void quotientsAndRests() {
        Due.sentence("Term 2: / cut, % the rest that it leaves");
        int[][] of = {{7, 2}, {8, 2}, {1, 2}, {0, 2}, {9, 10}, {7, -2}, {-7, 2}, {-7, -2}, {-1, 2}, {6, 3}, {-6, 3}, {5, 1}, {5, -1}};
        for (int[] o : of) {
            String text = number(o[0]) + "/" + number(o[1]);
            Due.holds(text, Texts.isWorth(text, o[0] / o[1]));
            text = number(o[0]) + "%" + number(o[1]);
            Due.holds(text, Texts.isWorth(text, o[0] % o[1]));
        }
        Due.due("the least int by -1 wraps", Texts.fresh("4096*4096*128/(0-1)<0", 0, 0), 1);
        Due.due("and leaves 0", Texts.fresh("4096*4096*128%(0-1)=0", 0, 0), 1);
    }

    private static String number(int v) {
        return v >= 0 ? "" + v : "(0-" + -v + ")";
    }

    private static void byZero() {
        Due.sentence("Term 2: both by 0 are 0");
        Due.holds("5/0", Texts.isWorth("5/0", 0));
        Due.holds("0/0", Texts.isWorth("0/0", 0));
        Due.holds("5%0", Texts.isWorth("5%0", 0));
        Due.holds("0%0", Texts.isWorth("0%0", 0));
        Due.holds("(0-5)/0", Texts.isWorth("(0-5)/0", 0));
        Due.holds("(0-5)%0", Texts.isWorth("(0-5)%0", 0));
        Due.holds("5/(1-1)+3", Texts.isWorth("5/(1-1)+3", 3));
        Due.holds("3+5%(p-p)", Texts.isWorth("3+5%(p-p)", 3));
    }

    private static void oneOrZero() {
        Due.sentence("Term 2: | & < = > ! are 1 or 0, what is not 0 being true");
        String[] values = {"0", "1", "7", "(0-1)", "(0-7)"};
        int[] worth = {0, 1, 7, -1, -7};
        for (int i = 0; i < values.length; i++) {
            Due.holds("!" + values[i], Texts.isWorth("!" + values[i], worth[i] == 0 ? 1 : 0));
            for (int j = 0; j < values.length; j++) {
                boolean[] is = {worth[i] != 0 || worth[j] != 0, worth[i] != 0 && worth[j] != 0, worth[i] < worth[j],
                    worth[i] == worth[j], worth[i] > worth[j]};
                for (int k = 0; k < is.length; k++) {
                    String text = values[i] + "|&<=>".charAt(k) + values[j];
                    Due.holds(text, Texts.isWorth(text, is[k] ? 1 : 0));
                }
            }
        }
    }

    private static void allIsWorkedOut() {
        Due.sentence("Term 2: all is worked out");
        Due.holds("1|5/0", Texts.isWorth("1|5/0", 1));
        Due.holds("0&5%0", Texts.isWorth("0&5%0", 0));
        Due.holds("0|0|2", Texts.isWorth("0|0|2", 1));
        Due.holds("1&1&0|0&1", Texts.isWorth("1&1&0|0&1", 0));
        Due.holds("1|0&0|0", Texts.isWorth("1|0&0|0", 1));
    }

    /** A text goes on with just these signs; any other byte behind it is the FAULT. */
    private static void goesOn(String text, String signs) {
        for (int b = 0; b <= 255; b++) {
            String longer = text + (char) b;
            int fault = Texts.fault(Texts.ANSWERS, longer);
            boolean isOn = fault < 0 || fault == longer.length();
            if (signs.indexOf((char) b) >= 0) {
                Due.holds("byte " + b + " goes on behind " + text, isOn);
            } else {
                Due.due("FAULT by byte " + b + " behind " + text, fault, text.length());
            }
        }
    }

    private static void faultOfEachByte() {
        Due.sentence("Term 2: FAULT: the place of the first byte with which no TEXT goes on");
        String units = NUMBERS + NAMES + "!(";
        goesOn("", units);
        for (String opener : new String[] {"(", "!", "c|", "c&", "c<", "c=", "c>", "c+", "c-", "c*", "c/", "c%", "((((", "!!!!"}) {
            goesOn(opener, units);
        }
        goesOn("(((((", NUMBERS + NAMES);
        goesOn("!!!!!", NUMBERS + NAMES);
        goesOn("c", "|&<=>+-*/%");
        goesOn("1", "|&<=>+-*/%" + NUMBERS);
        goesOn("123", "|&<=>+-*/%" + NUMBERS);
        goesOn("1234", "|&<=>+-*/%");
        goesOn("(c", "|&<=>+-*/%)");
        goesOn("(c)", "|&<=>+-*/%");
        goesOn("c<c", "|&+-*/%");
        goesOn("(c<c", "|&+-*/%)");
        goesOn("(c<c)", "|&<=>+-*/%");
        goesOn("c<c&c", "|&<=>+-*/%");
        goesOn("c>c+c", "|&+-*/%");
        goesOn("!!!!!c", "|&<=>+-*/%");
        fault("c)c)c", 1);
        fault("c+n+n", 2);
    }

    private static void endsTooEarly() {
        Due.sentence("Term 2: FAULT: how many there are, if it ends too early");
        fault("", 0);
        for (String text : new String[] {"!", "(", "c|", "(c", "(1+", "c<", "!(c", "((c)", "(((((", "1%"}) {
            fault(text, text.length());
        }
        fault("c+".repeat(30), 60);
        fault("(c" + "+c".repeat(29), 60);
        fault("1234" + "+c".repeat(27) + "+(", 60);
    }

    /** What a TOLD one pays of 100 coins, by a TEXT. */
    private static int answers(String text) {
        FathersPay x = new FathersPay();
        x.person(600, 500, 500);
        x.debt(0, 100, 0);
        Towns.tell(x, Texts.ANSWERS, text);
        return x.called(0, 0);
    }

    private static void answersHeld() {
        Due.sentence("Term 2: ANSWERS of TOLD: held within 0 .. c");
        Due.due("-1", answers("0-1"), 0);
        Due.due("0", answers("0"), 0);
        Due.due("1", answers("1"), 1);
        Due.due("c-1", answers("c-1"), 99);
        Due.due("c", answers("c"), 100);
        Due.due("c+1", answers("c+1"), 100);
        Due.due("the least int", answers("4096*4096*128"), 0);
        Due.due("the greatest int", answers("4096*4096*128-1"), 100);
    }

    private static void answersNames() {
        Due.sentence("Term 2: NAMES c what is CALLED from it, p PURSE, h HOUSE, s how many steps up, m m");
        FathersPay x = Towns.chain(10, 0);
        for (int p = 0; p < 10; p++) {
            Towns.become(x, p, 690 + p);
            Towns.give(x, p, 1000 + p, 2000 + p);
        }
        x.debt(0, 99999, 0);
        String[] texts = {"s", "m", "p", "h"};
        int[] first = {0, 90, 1000, 2000};
        for (int i = 0; i < texts.length; i++) {
            Towns.tell(x, Texts.ANSWERS, texts[i]);
            for (int p = 0; p < 10; p++) {
                Due.due(texts[i] + " at " + p, x.called(0, p), first[i] + p);
            }
        }
        Towns.tell(x, Texts.ANSWERS, "c/100");
        // 99999 - 999 - 990 are CALLED from the third
        Due.due("c of who owes", x.called(0, 0), 999);
        Due.due("c of the next", x.called(0, 1), 990);
        Due.due("c of the third", x.called(0, 2), 980);
        Due.sentence("Term 2: PURSE and HOUSE of ANSWERS as they are at that time");
        FathersPay y = Towns.family(4);
        y.parent(1, 0, 3);
        y.parent(2, 0, 3);
        Towns.become(y, 3, 600);
        Towns.give(y, 3, 10, 10);
        y.debt(0, 100, 0);
        Towns.tell(y, Texts.ANSWERS, "p/2+h/2");
        // 10 of the PURSE first; then 5 of the HOUSE
        Due.due("by both ways", y.called(0, 3), 15);
    }

    private static void textsInPlaceOfOthers() {
        Due.sentence("Promise 16: the TEXT of a USE, in place of one ahead, is that one alone");
        String[] texts = {"7", "p", "!p", "!!p", "p+1", "!(p+1)", "1|0", "1+2*3", "(1<2)+!0", "h%7-p*0", "9-8-7-6", "!1|!2&!3"};
        for (String first : texts) {
            for (String second : texts) {
                for (String fault : new String[] {"", "!!!!!!", "p+", "12345"}) {
                    FathersPay x = new FathersPay();
                    x.person(0, 100, 230);
                    Towns.tell(x, Texts.FRESH, first);
                    Towns.tell(x, Texts.FRESH, second);
                    Due.feed(x, fault);
                    Due.holds("FAULT of " + fault, x.text(Texts.FRESH) <= -10);
                    x.years(1);
                    Due.due(second + " behind " + first, x.personIs(0, 5) - 100, Texts.fresh(second, 100, 230));
                }
            }
        }
    }

    private static void answersWithoutText() {
        Due.sentence("Term 2: ANSWERS: without a TEXT c");
        for (int c : new int[] {1, 2, 99999}) {
            for (int s = 0; s <= 2; s++) {
                FathersPay x = Towns.chain(s + 1, 0);
                Towns.become(x, s, 600);
                Towns.give(x, s, 99999, 0);
                x.debt(0, c, 0);
                Due.due("c", x.called(0, s), c);
                Towns.tell(x, Texts.FRESH, "0");
                Due.due("by FRESH, too", x.called(0, s), c);
                Towns.tell(x, Texts.ANSWERS, "0");
                Due.due("0", x.called(0, s), 0);
                x.untell(0);
                Due.due("c again", x.called(0, s), c);
            }
        }
    }

    private static void freshHeld() {
        Due.sentence("Term 2: FRESH: held within 0 .. 9999");
        Due.due("-1", Texts.fresh("0-1", 5, 0), 0);
        Due.due("0", Texts.fresh("0", 5, 0), 0);
        Due.due("1", Texts.fresh("1", 5, 0), 1);
        Due.due("9998", Texts.fresh("9998", 5, 0), 9998);
        Due.due("9999", Texts.fresh("9999", 5, 0), 9999);
        Due.due("10000", Texts.fresh("9999+1", 5, 0), 9999);
        Due.due("the least int", Texts.fresh("4096*4096*128", 5, 0), 0);
        Due.due("the greatest int", Texts.fresh("4096*4096*128-1", 5, 0), 9999);
    }

    private static void freshNames() {
        Due.sentence("Term 2: FRESH: p PURSE, h HOUSE, n how many children (alive) they have");
        Due.due("p", Texts.fresh("p", 123, 4567), 123);
        Due.due("h", Texts.fresh("h", 123, 4567), 4567);
        Due.due("n", Texts.fresh("n", 123, 4567), 2);
        FathersPay x = Towns.poor(12);
        for (int p = 0; p < 11; p++) {
            x.parent(p, p % 2, 11);
        }
        x.parent(10, 1, 9);
        Towns.tell(x, Texts.FRESH, "n");
        for (int dead = 0; dead <= 11; dead++) {
            if (dead > 0) {
                x.set(dead - 1, 4, 0);
            }
            int before = x.personIs(11, 5);
            x.years(1);
            Due.due("alive of eleven", x.personIs(11, 5) - before, 11 - dead);
        }
        Due.due("one who has none", x.personIs(10, 5), 0);
        Due.due("one who had one, ten times", x.personIs(9, 5), 10);
    }

    private static void freshWithoutText() {
        Due.sentence("Term 2: FRESH: without h / 20");
        int[][] due = {{0, 0}, {19, 0}, {20, 1}, {39, 1}, {40, 2}, {99999, 4999}};
        FathersPay x = new FathersPay();
        for (int[] d : due) {
            x.person(0, 0, d[0]);
        }
        Towns.tell(x, Texts.ANSWERS, "7");
        x.years(1);
        for (int p = 0; p < due.length; p++) {
            Due.due("FRESH by a HOUSE of " + due[p][0], x.personIs(p, 5), due[p][1]);
        }
    }
}
