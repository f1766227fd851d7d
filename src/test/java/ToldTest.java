/** Promises 32 to 37: IMAGES, numbers that wait, what is counted and told. */
public final class ToldTest {
    public static void main(String[] args) {
        promise32And33();
        promise33Whole();
        promise34();
        promise35();
        promise36();
        promise37();
        promise37EachErrorOnce();
        Due.end();
    }

    private static void promise32And33() {
        FathersPay x = new FathersPay();
        Due.due("there is none", x.restore(), Due.NONE);
        Due.due("first", x.image(), 1);
        x.person(0, 5, 0);
        Due.due("as it was: nobody", x.restore(), 0);
        Due.due("nobody", x.count(0), 0);
        x.person(0, 6, 0);
        x.days(7);
        Due.due("how often isn't taken back", x.image(), 2);
        x.days(2);
        x.set(0, 5, 99);
        Due.due("TODAY then", x.restore(), 7);
        Due.due("PURSE", x.personIs(0, 5), 6);
        x.set(0, 5, 98);
        x.days(1);
        Due.due("it stays", x.restore(), 7);
        Due.due("PURSE", x.personIs(0, 5), 6);
        Due.due("third", x.image(), 3);
        Due.due("told of NONE", x.told(2), 1);
    }

    private static FathersPay full() {
        FathersPay x = new FathersPay();
        x.person(610, 100, 200);
        x.person(0, 50, 60);
        x.parent(0, 0, 1);
        x.set(0, 7, 3);
        x.debt(0, 40, 3);
        x.debt(1, 500, 0);
        x.days(1);
        x.seed(77);
        x.rule(0, 5);
        x.rule(1, 1);
        x.rule(2, 1);
        Due.feed(x, "c/3");
        x.text(0);
        Due.feed(x, "9");
        x.text(1);
        Due.feed(x, "12");
        x.tell(4);
        x.tell(0);
        return x;
    }

    private static void promise33Whole() {
        FathersPay x = full();
        x.sheet(0, 8, 3);
        x.voice(0, 0, 1);
        Due.due("kept", x.image(), 1);
        x.set(0, 0, 1);
        x.set(0, 1, 2);
        x.set(0, 4, 0);
        x.set(0, 6, 7);
        x.set(0, 7, 0);
        x.parent(0, 0, -1);
        x.parent(0, 1, 1);
        x.person(0, 0, 0);
        x.days(9);
        x.debt(1, 5, 5);
        x.seed(1);
        x.rule(0, 9);
        x.rule(1, 0);
        x.rule(2, 0);
        x.untell(0);
        x.untell(1);
        Due.due("fault of 12p", x.feed('p', 1), 3);
        x.text(1);
        x.check(0);
        x.years(1);
        x.sheet(0, 16, 2);
        x.voice(1, 1, 1);
        x.personIs(99, 0);
        x.personIs(99, 0);
        Due.due("restored", x.restore(), 1);
        int[] first = {6, 10, 1, -1, 1, 100, 200, 3};
        for (int what = 0; what < first.length; what++) {
            Due.due("PERSON 0, " + what, x.personIs(0, what), first[what]);
        }
        Due.due("DEBT 0", x.debtIs(0, 3), 1);
        Due.due("DEBT 1", x.debtIs(1, 3), 0);
        int[] counts = {2, 2, 2, 1, 1, -390, 2, 2, 2, 77};
        for (int what = 0; what < counts.length; what++) {
            Due.due("count(" + what + ")", x.count(what), counts[what]);
        }
        Due.due("STEPS", x.rule(0, 5), 5);
        Due.due("HALVES", x.rule(1, 1), 1);
        Due.due("SISTERS", x.rule(2, 1), 1);
        Due.due("ANSWERS", x.called(0, 0), 13);
        x.years(1);
        Due.due("FRESH", x.personIs(1, 5), 9);
        Due.due("THE TRACE isn't kept", x.body(0), 11);
        Due.due("SHEETS aren't kept", x.put(0, 2, 0), Due.BEYOND);
        Due.due("what is told isn't kept", x.told(1), 3);
        Due.due("THE TAPE: 12", x.text(0), 1);
        Due.due("so", x.called(0, 0), 12);
        Due.due("the numbers that wait: 4, 0", x.check(0), 1);
    }

    private static void promise34() {
        FathersPay x = new FathersPay();
        for (int i = 1; i <= 24; i++) {
            Due.due("waits", x.tell(i % 2 == 0 ? Integer.MIN_VALUE : Integer.MAX_VALUE), i);
        }
        Due.due("FULL", x.tell(0), Due.FULL);
        Due.due("24", x.count(7), 24);
        Due.due("told", x.told(4), 1);
    }

    private static int check(FathersPay x, int debt, int... said) {
        for (int v : said) {
            x.tell(v);
        }
        int answer = x.check(debt);
        Due.due("none wait any more", x.count(7), 0);
        return answer;
    }

    private static void promise35() {
        FathersPay x = new FathersPay();
        x.person(0, 0, 9);
        x.person(0, 0, 0);
        x.person(0, 7, 0);
        x.person(0, 99, 0);
        x.person(0, 10, 0);
        x.parent(4, 0, 1);
        x.parent(4, 1, 2);
        x.parent(1, 0, 0);
        x.debt(4, 30, 0);
        x.debt(1, 9, 0);
        x.debt(1, 900, 0);
        // 10 of 4; 10 at 1, by that at 0, who has 9; 10 at 2, who has 7
        Due.due("who would PAY", check(x, 0, 0, 2, 4), 0);
        Due.due("none", check(x, 0), 1);
        Due.due("the first", check(x, 0, 1, 2, 4), 1);
        Due.due("the second lacks", check(x, 0, 0), 2);
        Due.due("the second is another one", check(x, 0, 0, 4, 2), 2);
        Due.due("the third lacks", check(x, 0, 0, 2), 3);
        Due.due("the third is another one", check(x, 0, 0, 2, 3), 3);
        Due.due("one too many", check(x, 0, 0, 2, 4, 5), 4);
        Due.due("twice", check(x, 0, 0, 2, 4, 4), 4);
        Due.due("of another DEBT", check(x, 1, 0), 0);
        Due.due("debt above", check(x, 3, 0), Due.BEYOND);
        Due.due("debt below", check(x, -1, 0), Due.BEYOND);
        x.fails(1);
        Due.due("settled", check(x, 1, 0), Due.STATE);
        Due.due("nobody: 0 has nothing any more", check(x, 2), 0);
        Due.due("but one is told", check(x, 2, 0), 1);
        Due.due("still OWED", x.debtIs(0, 3), 1);
        Due.due("PURSES stay", x.personIs(4, 5), 10);
    }

    private static void promise36() {
        FathersPay x = full();
        int[] counts = {2, 2, 2, 1, 1, -390, 2, 2, 0, 77};
        for (int what = 0; what < counts.length; what++) {
            Due.due("count(" + what + ")", x.count(what), counts[what]);
        }
        x.set(1, 4, 0);
        x.voice(0, 2, 1);
        x.debt(1, 1, 1);
        x.person(0, 0, 0);
        int[] then = {3, 2, 3, 2, 1, -390, 2, 2, 4, 77};
        for (int what = 0; what < then.length; what++) {
            Due.due("then count(" + what + ")", x.count(what), then[what]);
        }
        Due.due("what above", x.count(10), Due.BEYOND);
        Due.due("what below", x.count(-1), Due.BEYOND);
        x.seed(Due.FULL);
        Due.due("any number", x.count(9), Due.FULL);
        Due.due("which is no ERROR", x.told(4), 0);
    }

    private static void promise37() {
        FathersPay x = new FathersPay();
        Due.due("k above", x.told(7), Due.BEYOND);
        Due.due("counted, too", x.told(1), 1);
        Due.due("k 0", x.told(0), Due.BEYOND);
        Due.due("k below", x.told(-1), Due.BEYOND);
        Due.due("counted, too", x.told(1), 3);
        Due.due("told() counts none", x.told(1), 3);
    }

    private static void promise37EachErrorOnce() {
        FathersPay x = new FathersPay();
        x.restore();
        x.body(0);
        x.put(0, 0, 0);
        Due.due("NONE", x.told(2), 3);
        x.person(0, 0, 0);
        x.debt(0, 5, 0);
        x.settle(0);
        Due.due("STATE", x.told(3), 1);
        x.as(0, 6);
        x.as(0, 6);
        Due.due("KIND", x.told(5), 2);
        x.voice(0, 3, 1);
        Due.due("PARTED", x.told(6), 1);
        x.safe(0, 2);
        x.safe(9, 0);
        Due.due("BEYOND, by longs, too", x.told(1), 2);
        for (int i = 0; i < 26; i++) {
            x.tell(1);
        }
        Due.due("FULL", x.told(4), 2);
        x.image();
        x.restore();
        Due.due("not taken back", x.told(4), 2);
    }
}
