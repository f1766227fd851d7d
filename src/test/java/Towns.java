/** Objects in states that several tests begin with. */
final class Towns {
    private Towns() {
    }

    /** So many PERSONS who have nothing. */
    static FathersPay poor(int persons) {
        FathersPay x = new FathersPay();
        for (int p = 0; p < persons; p++) {
            x.person(0, 0, 0);
        }
        return x;
    }

    /** So many PERSONS, each of them child of the next one, as FATHER (way 0), MOTHER (1), by turns (2). */
    static FathersPay chain(int persons, int way) {
        FathersPay x = poor(persons);
        for (int p = 0; p + 1 < persons; p++) {
            x.parent(p, way == 2 ? p % 2 : way, p + 1);
        }
        return x;
    }

    /** 0 is child of 1 and 2; all have nothing. */
    static FathersPay family(int persons) {
        FathersPay x = poor(persons);
        x.parent(0, 0, 1);
        x.parent(0, 1, 2);
        return x;
    }

    /** One PERSON who has nothing and owes 1 by each of ten DEBTS. */
    static FathersPay owingTen() {
        FathersPay x = poor(1);
        for (int d = 0; d < 10; d++) {
            x.debt(0, 1, 0);
        }
        return x;
    }

    /** A PERSON becomes so rich. */
    static void give(FathersPay x, int person, int purse, int house) {
        x.set(person, 5, purse);
        x.set(person, 6, house);
    }

    /** A PERSON becomes of a KIND, with m. */
    static void become(FathersPay x, int person, int km) {
        x.set(person, 0, km / 100);
        x.set(person, 1, km % 100);
    }

    static void tell(FathersPay x, int use, String text) {
        Due.feed(x, text);
        Due.due("text " + text, x.text(use), 1);
    }

    /** Something of all that there is; 70 calls. DEBT 2 is settled, SHEET 3 missing; the IMAGE is another state. */
    static void settleIn(FathersPay x) {
        x.person(610, 100, 200);
        x.person(0, 50, 60);
        x.person(142, 70, 0);
        x.person(203, 30, 40);
        x.person(599, 9, 9);
        x.parent(0, 0, 1);
        x.parent(0, 1, 2);
        x.parent(3, 0, 1);
        x.parent(3, 1, 2);
        x.debt(0, 400, 30);
        x.debt(3, 700, 5);
        tell(x, 0, "c/2");
        tell(x, 1, "8");
        Due.feed(x, "c-1");
        for (int p = 0; p < 4; p++) {
            x.tell(p);
        }
        x.image();
        x.image();
        Due.due("text", x.text(0), 1);
        x.check(0);
        x.parent(4, 0, 0);
        x.set(1, 7, 3);
        x.set(3, 7, 9);
        x.debt(1, 10, 3);
        x.debt(4, 50, 9999);
        x.settle(2);
        x.days(1);
        x.seed(77);
        x.rule(0, 5);
        x.rule(1, 1);
        x.rule(2, 1);
        tell(x, 0, "c/3");
        tell(x, 1, "9+n");
        Due.feed(x, "12");
        for (int p = 0; p < 4; p++) {
            x.tell(p);
        }
        lay(x, 0, 8, 0, 5, 6, 1, 7, 8);
        lay(x, 1, 16, 2, 300, 400, 3, 301, 9);
        lay(x, 2, 32, 4, 70000, 9999);
        x.voice(4, 2, 100);
    }

    static FathersPay settled() {
        FathersPay x = new FathersPay();
        settleIn(x);
        return x;
    }

    static void lay(FathersPay x, int sheet, int bits, int... numbers) {
        x.sheet(sheet, bits, numbers.length);
        for (int i = 0; i < numbers.length; i++) {
            x.put(sheet, i, numbers[i]);
        }
    }
}
