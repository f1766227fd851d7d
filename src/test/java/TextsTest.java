/** Promises 15 to 17 and term 2: THE TAPE, TEXTS, their FAULTS, what they are worth. */
public final class TextsTest {
    public static void main(String[] args) {
        promise15();
        promise16();
        promise16Faults();
        promise16Worth();
        promise16Uses();
        promise17();
        Due.end();
    }

    private static void promise15() {
        FathersPay x = new FathersPay();
        Due.due("n below", x.feed(49, 0), Due.BEYOND);
        Due.due("n above", x.feed(49, 9), Due.BEYOND);
        Due.due("n below 0", x.feed(49, -1), Due.BEYOND);
        for (int i = 1; i <= 7; i++) {
            Due.due("eight more", x.feed(-1L, 8), 8 * i);
        }
        Due.due("five are too many", x.feed(0, 5), Due.FULL);
        Due.due("BEYOND ahead of FULL", x.feed(0, 9), Due.BEYOND);
        Due.due("nothing came", x.count(6), 56);
        Due.due("four are not", x.feed(0, 4), 60);
        Due.due("one is", x.feed(0, 1), Due.FULL);
        Due.due("told", x.told(4), 2);
        FathersPay y = new FathersPay();
        // "12+c" with the lowest byte first; what stands above the n bytes is not read
        Due.due("the lowest first", y.feed(0x7163_2B32_31L | 0x7F00_0000_0000_0000L, 4), 4);
        Due.due("a TEXT", y.text(0), 1);
        y.person(600, 99, 0);
        y.debt(0, 50, 0);
        Due.due("12 + 50, held", y.called(0, 0), 50);
        y.feed('1' + 256L * '2', 2);
        y.text(0);
        Due.due("12", y.called(0, 0), 12);
        y.feed(Due.word("1") << 56 | Due.word("0000000"), 8);
        Due.due("the eighth byte: a number of more than 4 digits", y.text(0), -14);
    }

    private static void promise16() {
        FathersPay x = new FathersPay();
        Due.feed(x, "c/2");
        Due.due("use above", x.text(2), Due.BEYOND);
        Due.due("use below", x.text(-1), Due.BEYOND);
        Due.due("THE TAPE stays", x.count(6), 3);
        Due.due("a TEXT", x.text(0), 1);
        Due.due("THE TAPE is empty", x.count(6), 0);
        x.person(600, 99, 0);
        x.debt(0, 50, 0);
        Due.due("ANSWERS", x.called(0, 0), 25);
        Due.feed(x, "c/2+");
        Due.due("ends too early", x.text(0), -14);
        Due.due("the one ahead stays", x.called(0, 0), 25);
        Due.feed(x, "c/5");
        Due.due("in place of it", x.text(0), 1);
        Due.due("ANSWERS", x.called(0, 0), 10);
        Due.due("an empty TAPE", x.text(0), -10);
        Due.due("the one ahead stays", x.called(0, 0), 10);
        Due.feed(x, "c");
        Due.due("not of FRESH", x.text(1), -10);
        Due.due("ANSWERS stays by FRESH", x.called(0, 0), 10);
        Due.due("two ERRORS alone", x.told(1), 2);
    }

    private static void promise16Faults() {
        String[] fine = {"1", "9999", "0000", "c", "!c", "!!!!!c", "(((((c)))))", "(!(!(c)))", "c|p&h<s+m*1", "1<2", "(1<2)<3",
            "1<(2<3)", "1<2|3=4&5>6", "!1!1".substring(0, 2), "!(1)*!2", "1-1-1", "((((1))))+((((2))))", "!!!!!1+!!!!!2",
            "1+1+1+1+1+1+1+1+1+1+1+1+1+1+1+1+1+1+1+1+1+1+1+1+1+1+1+1+1+12"};
        for (String text : fine) {
            Due.due("FAULT of " + text, Texts.fault(0, text), -1);
        }
        Object[][] faults = {{"", 0}, {"+", 0}, {"-1", 0}, {" 1", 0}, {"1 ", 1}, {"1+ 1", 2}, {"12345", 4}, {"c1", 1}, {"1c", 1},
            {"cc", 1}, {"1<2<3", 3}, {"1=2>3", 3}, {"(1<2<3)", 4}, {"1<2&3<4<5", 7}, {"1<=2", 2}, {"1<", 2}, {"1!", 1}, {"!", 1},
            {"!)", 1}, {"(", 1}, {"()", 1}, {"(1", 2}, {"(1))", 3}, {")", 0}, {"!!!!!!1", 5}, {"((((((1))))))", 5},
            {"!(!(!(1", 5}, {"(((((1+(2", 7}, {"(((((1)))))+((((((", 17}, {"!!!!!c!", 6}, {"1||2", 2}, {"1&&2", 2}, {"n", 0},
            {"c+n", 2}, {"C", 0}, {"c+p+h+s+m+x", 10}, {"1+2*", 4}, {"1%%2", 2}, {"1*-2", 2}, {"!12345", 5}, {"1\u0000", 1},
            {"\u00ff", 0}, {"c\u00e3", 1}, {"(c|p&h<s+m*", 11}, {"1>2)", 3},
            {"1+1+1+1+1+1+1+1+1+1+1+1+1+1+1+1+1+1+1+1+1+1+1+1+1+1+1+1+1+1+", 60}};
        for (Object[] f : faults) {
            Due.due("FAULT of " + f[0], Texts.fault(0, (String) f[0]), (Integer) f[1]);
        }
        Due.due("names of FRESH", Texts.fault(1, "p+h+n"), -1);
        Due.due("not c", Texts.fault(1, "p+c"), 2);
        Due.due("not s", Texts.fault(1, "s"), 0);
        Due.due("not m", Texts.fault(1, "n*m"), 2);
    }

    private static void promise16Worth() {
        Object[][] worth = {{"7", 7}, {"0042", 42}, {"p", 100}, {"h", 230}, {"n", 2}, {"1+2*3", 7}, {"(1+2)*3", 9}, {"10-3-2", 5},
            {"100/7/2", 7}, {"100%7", 2}, {"100/7*7", 98}, {"7*100/7", 100}, {"5/0", 0}, {"5%0", 0}, {"5+5/0", 5}, {"5%0+3", 3},
            {"0-7", 0}, {"(0-7)/2+10", 7}, {"(0-7)%4+10", 7}, {"9999+1", 9999}, {"9999*9999", 9999}, {"!0", 1}, {"!5", 0},
            {"!!5", 1}, {"!(0-1)", 0}, {"3|0", 1}, {"0|0", 0}, {"0|(0-4)", 1}, {"2&4", 1}, {"2&0", 0}, {"0&2", 0}, {"0|1&0", 0},
            {"1|1&0", 1}, {"(1|1)&0", 0}, {"1<2", 1}, {"2<1", 0}, {"2<2", 0}, {"2=2", 1}, {"2=3", 0}, {"3>2", 1}, {"2>2", 0},
            {"0-1<1", 1}, {"2=1+1", 1}, {"1<2&3>2", 1}, {"5&3>4", 0}, {"(1<2)+5", 6}, {"1<2|9", 1}, {"!0+5", 6}, {"!0*5", 5},
            {"2*!0+1", 3}, {"!p+1", 1}, {"h-p", 130}, {"p*n-h%9", 195},
            {"9999*9999*9999*9999%9999", Math.max(0, 9999 * 9999 * 9999 * 9999 % 9999)},
            {"9999*9999*9999/1000", Math.max(0, Math.min(9999, 9999 * 9999 * 9999 / 1000))},
            {"4096*4096*128=0-4096*4096*128", 1}, {"4096*4096*128/(0-1)<0", 1}, {"4096*4096*128%(0-1)+3", 3},
            {"1+(2+(3+(4+(5+6))))", 21}, {"1|0&1<1+1*(0|1&2>1+1*(1))", 1}, {"1-1=0&2*3=6|0", 1}};
        for (Object[] w : worth) {
            Due.due((String) w[0], Texts.fresh((String) w[0], 100, 230), (Integer) w[1]);
        }
    }

    private static void promise16Uses() {
        FathersPay x = new FathersPay();
        x.person(0, 0, 0);
        x.person(607, 30, 40);
        x.parent(0, 0, 1);
        x.debt(0, 60, 0);
        x.debt(1, 60, 0);
        Due.due("without a TEXT c", x.called(0, 1), 60);
        String[] texts = {"c", "p", "h", "s", "m", "c-p", "0-1", "c+1", "s*10+m", "9999*9999"};
        int[] above = {60, 30, 40, 1, 7, 30, 0, 60, 17, 60};
        int[] owing = {60, 30, 40, 0, 7, 30, 0, 60, 7, 60};
        for (int i = 0; i < texts.length; i++) {
            Due.feed(x, texts[i]);
            x.text(0);
            Due.due("above: " + texts[i], x.called(0, 1), above[i]);
            Due.due("owing: " + texts[i], x.called(1, 1), owing[i]);
        }
        FathersPay y = new FathersPay();
        y.person(0, 0, 0);
        y.person(0, 0, 0);
        y.person(0, 0, 0);
        y.person(600, 30, 40);
        y.parent(0, 0, 1);
        y.parent(0, 1, 2);
        y.parent(1, 0, 3);
        y.parent(2, 1, 3);
        y.debt(0, 100, 0);
        Due.feed(y, "p+s");
        y.text(0);
        // 32 the first time, by which PURSE is 0 and HOUSE 38; then 2
        Due.due("PURSE as it is at that time", y.called(0, 3), 34);
        Due.feed(y, "h");
        y.text(0);
        Due.due("HOUSE as it is at that time", y.called(0, 3), 70);
        FathersPay z = new FathersPay();
        z.person(0, 0, 500);
        z.person(0, 0, 0);
        z.parent(1, 0, 0);
        Due.feed(z, "n*7+1");
        z.text(1);
        z.years(1);
        Due.due("one child", z.personIs(0, 5), 8);
        Due.due("no child", z.personIs(1, 5), 1);
        z.set(1, 4, 0);
        z.years(1);
        Due.due("ALIVE ones alone", z.personIs(0, 5), 9);
        Due.feed(z, "0-5");
        z.text(1);
        z.years(1);
        Due.due("not below 0", z.personIs(0, 5), 9);
        Due.due("a FAULT", z.text(1), -10);
        z.years(1);
        Due.due("the one ahead stays", z.personIs(0, 5), 9);
        z.untell(1);
        z.years(1);
        Due.due("h / 20 again", z.personIs(0, 5), 34);
    }

    private static void promise17() {
        FathersPay x = new FathersPay();
        x.person(600, 99, 0);
        x.debt(0, 50, 0);
        Due.due("none of ANSWERS", x.untell(0), 0);
        Due.feed(x, "1");
        x.text(0);
        Due.feed(x, "2");
        x.text(1);
        Due.due("one coin", x.called(0, 0), 1);
        Due.due("there was", x.untell(0), 1);
        Due.due("c again", x.called(0, 0), 50);
        Due.due("there is none", x.untell(0), 0);
        Due.due("that of FRESH stays", x.untell(1), 1);
        Due.due("no more", x.untell(1), 0);
        Due.due("use above", x.untell(2), Due.BEYOND);
        Due.due("use below", x.untell(-1), Due.BEYOND);
    }
}
