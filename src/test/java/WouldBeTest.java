/** Promises 18 to 24 and term 4: CALLED, LOST, BESPOKE, SAFE, DISOWN, ADOPT, what is needed. */
public final class WouldBeTest {
    public static void main(String[] args) {
        promise18();
        promise19();
        promise20();
        promise21();
        promise21States();
        promise22();
        promise23();
        promise24();
        Due.end();
    }

    /** Who owes (0) has FATHER 1 and MOTHER 2; 3 is FATHER of both. */
    private static FathersPay diamond() {
        FathersPay x = new FathersPay();
        x.person(0, 10, 0);
        x.person(0, 5, 0);
        x.person(0, 0, 6);
        x.person(0, 20, 10);
        x.parent(0, 0, 1);
        x.parent(0, 1, 2);
        x.parent(1, 0, 3);
        x.parent(2, 0, 3);
        return x;
    }

    private static void promise18() {
        FathersPay x = diamond();
        x.debt(0, 61, 0);
        // 51 up: 26 and 25; then 21 and 19 at 3, who has 30
        Due.due("who owes", x.called(0, 0), 10);
        Due.due("FATHER", x.called(0, 1), 5);
        Due.due("MOTHER", x.called(0, 2), 6);
        Due.due("by both ways", x.called(0, 3), 30);
        Due.due("debt above", x.called(1, 0), Due.BEYOND);
        Due.due("debt below", x.called(-1, 0), Due.BEYOND);
        Due.due("person above", x.called(0, 4), Due.BEYOND);
        Due.due("person below", x.called(0, -1), Due.BEYOND);
        unchanged(x);
        x.fails(0);
        Due.due("settled", x.called(0, 0), Due.STATE);
        Due.due("BEYOND first", x.called(0, 4), Due.BEYOND);
    }

    private static void unchanged(FathersPay x) {
        int[] purses = {10, 5, 0, 20};
        int[] houses = {0, 0, 6, 10};
        for (int p = 0; p < 4; p++) {
            Due.due("PURSE stays", x.personIs(p, 5), purses[p]);
            Due.due("HOUSE stays", x.personIs(p, 6), houses[p]);
            Due.due("ALIVE stays", x.personIs(p, 4), 1);
        }
        Due.due("FATHER stays", x.personIs(0, 2), 1);
        Due.due("MOTHER stays", x.personIs(0, 3), 2);
        Due.due("THE TOWN stays", x.count(5), 0);
        Due.due("OWED", x.debtIs(0, 3), 1);
        Due.due("z stays", x.count(9), 1);
    }

    private static void promise19() {
        FathersPay x = diamond();
        x.debt(0, 61, 0);
        Due.due("LOST", x.lost(0), 10);
        Due.due("again", x.lost(0), 10);
        unchanged(x);
        Due.due("debt above", x.lost(1), Due.BEYOND);
        Due.due("debt below", x.lost(-1), Due.BEYOND);
        x.set(0, 5, 99);
        x.settle(0);
        Due.due("settled", x.lost(0), Due.STATE);
    }

    private static void promise20() {
        FathersPay x = diamond();
        Due.due("no DEBT", x.bespoke(3), 0);
        x.debt(0, 61, 500);
        x.debt(3, 100, 0);
        x.debt(1, 7, 0);
        Due.due("all of it", x.bespoke(3), 30);
        Due.due("1 pays 5 in all", x.bespoke(1), 5);
        Due.due("2 pays 6", x.bespoke(2), 6);
        unchanged(x);
        x.set(3, 5, 99999);
        // 40 of the first, 100 of its own, 7 of the third, as 1 has nothing left by then
        Due.due("of three", x.bespoke(3), 147);
        x.fails(0);
        Due.due("OWED ones alone", x.bespoke(3), 107);
        Due.due("person above", x.bespoke(4), Due.BEYOND);
        Due.due("person below", x.bespoke(-1), Due.BEYOND);
    }

    private static void safe(FathersPay x, int debt, long above, long below) {
        Due.due("above the line", x.safe(debt, 0), above);
        Due.due("below the line", x.safe(debt, 1), below);
    }

    private static void promise21() {
        FathersPay x = new FathersPay();
        x.person(0, 10, 0);
        x.person(0, 50, 0);
        x.parent(0, 0, 1);
        x.debt(0, 40, 0);
        x.debt(0, 5, 0);
        safe(x, 0, 0, 1);
        x.set(1, 7, 3);
        // 30 by 3 of 10
        safe(x, 0, 9, 1);
        x.set(1, 5, 29);
        // 7 times 1, 3 times 30, by 10
        safe(x, 0, 97, 10);
        safe(x, 1, 0, 1);
        x.set(0, 7, 9);
        safe(x, 0, 97, 10);
        x.set(1, 4, 0);
        safe(x, 0, 30, 1);
        x.set(1, 4, 1);
        Due.due("ALIVE stays", x.personIs(1, 4), 1);
        x.person(0, 0, 0);
        x.set(2, 7, 5);
        safe(x, 0, 97, 10);
        x.parent(1, 0, 2);
        x.set(2, 5, 30);
        // all but by 3 of 10 times 5 of 10 in full: 2 * 0 + 3/10 * 5/10 * 30 + 7/10 * 5/10 * 1 + 0
        safe(x, 0, 97, 20);
        FathersPay y = new FathersPay();
        for (int p = 0; p < 12; p++) {
            y.person(0, 0, 0);
            y.set(p, 7, p > 0 && p < 10 ? 9 : 0);
        }
        for (int p = 0; p < 9; p++) {
            y.parent(p, 0, p + 1);
        }
        y.debt(0, 99999, 0);
        safe(y, 0, 99999, 1);
        y.set(9, 5, 99999);
        safe(y, 0, 899991, 10);
        y.set(9, 5, 1);
        y.set(1, 7, 1);
        for (int p = 1; p <= 9; p++) {
            y.set(p, 5, 11111);
        }
        // each brings 11111 by 1 of 10, the first by 9 of 10: 99999 less 11111 * (8 * 1 + 9) / 10
        safe(y, 0, 999990L - 11111 * 17, 10);
        y.rule(2, 1);
        sistersByChances();
        manyDigits();
    }

    private static void sistersByChances() {
        FathersPay x = new FathersPay();
        for (int p = 0; p < 5; p++) {
            x.person(0, p == 3 ? 10 : 0, 0);
        }
        for (int p = 2; p < 5; p++) {
            x.parent(p, 0, 0);
            x.parent(p, 1, 1);
        }
        x.set(3, 7, 4);
        x.set(4, 7, 9);
        x.debt(2, 10, 0);
        safe(x, 0, 10, 1);
        x.rule(2, 1);
        safe(x, 0, 4, 1);
        x.set(4, 5, 5);
        // 3 dead (4 of 10): 10 less 5 by 1 of 10
        safe(x, 0, 19, 5);
    }

    private static void manyDigits() {
        FathersPay x = new FathersPay();
        x.person(0, 0, 0);
        for (int p = 1; p <= 9; p++) {
            x.person(0, 0, 0);
            x.set(p, 7, 3);
            x.parent(p - 1, 1, p);
        }
        x.set(9, 5, 0);
        x.debt(0, 1, 0);
        for (int p = 1; p <= 9; p++) {
            x.set(p, 5, 1);
        }
        // lost if all are dead: 3 of 10, nine times
        safe(x, 0, 19683, 1000000000L);
    }

    private static void promise21States() {
        FathersPay x = new FathersPay();
        for (int p = 0; p < 12; p++) {
            x.person(0, 0, 0);
            x.set(p, 7, 1);
        }
        x.debt(0, 1, 0);
        x.debt(0, 1, 0);
        x.set(1, 7, 0);
        Due.due("ten are FRAIL", x.safe(0, 0), Due.STATE);
        x.set(2, 4, 0);
        safe(x, 0, 1, 1);
        x.set(1, 7, 1);
        Due.due("ten are FRAIL", x.safe(0, 1), Due.STATE);
        x.set(11, 7, 0);
        safe(x, 0, 1, 1);
        Due.due("part above", x.safe(0, 2), Due.BEYOND);
        Due.due("part below", x.safe(0, -1), Due.BEYOND);
        Due.due("debt above", x.safe(2, 0), Due.BEYOND);
        Due.due("debt below", x.safe(-1, 0), Due.BEYOND);
        x.fails(0);
        Due.due("settled", x.safe(0, 0), Due.STATE);
        Due.due("BEYOND first", x.safe(0, 2), Due.BEYOND);
        Due.due("told of STATE", x.told(3), 3);
    }

    private static void promise22() {
        FathersPay x = new FathersPay();
        for (int p = 0; p < 5; p++) {
            x.person(0, p == 4 ? 500 : 0, 0);
        }
        Due.due("no child", x.disown(4), Due.NONE);
        x.parent(3, 1, 4);
        x.parent(1, 0, 4);
        x.parent(2, 0, 4);
        Due.due("of several the least", x.disown(4), 1);
        x.debt(2, 30, 0);
        x.debt(3, 50, 0);
        x.debt(1, 40, 0);
        x.debt(3, 1, 0);
        Due.due("the dearest: by 51", x.disown(4), 3);
        Due.due("nothing changed", x.personIs(3, 3), 4);
        x.debt(2, 20, 0);
        Due.due("30 and 20 aren't 51", x.disown(4), 3);
        x.debt(2, 1, 0);
        Due.due("as dear: the least", x.disown(4), 2);
        x.set(2, 4, 0);
        Due.due("dead, too", x.disown(4), 2);
        x.parent(0, 0, 3);
        x.debt(0, 9, 0);
        Due.due("by children's children, too", x.disown(4), 3);
        Due.due("of those above", x.disown(3), 0);
        Due.due("person above", x.disown(5), Due.BEYOND);
        Due.due("person below", x.disown(-1), Due.BEYOND);
        Due.due("nor has a child", x.disown(0), Due.NONE);
        Due.due("THE TOWN stays", x.count(5), 0);
        Due.due("PURSE stays", x.personIs(4, 5), 500);
    }

    private static void promise23() {
        FathersPay x = new FathersPay();
        for (int p = 0; p < 6; p++) {
            x.person(0, 10 * p, 0);
        }
        x.debt(1, 60, 0);
        x.debt(0, 5, 0);
        Due.due("the richest", x.adopt(0), 5);
        Due.due("nothing changed", x.personIs(1, 2), -1);
        x.parent(5, 0, 1);
        Due.due("not who is under", x.adopt(0), 4);
        x.parent(1, 1, 4);
        // she pays her half of 50; 3 as FATHER all of his
        Due.due("not the MOTHER", x.adopt(0), 3);
        x.set(2, 5, 25);
        Due.due("2 as well: the least", x.adopt(0), 2);
        x.set(2, 5, 24);
        Due.due("3 makes it 0", x.adopt(0), 3);
        x.set(3, 4, 0);
        Due.due("2 makes it 1", x.adopt(0), 2);
        x.parent(1, 0, 0);
        Due.due("a FATHER is there", x.adopt(0), Due.STATE);
        Due.due("of several the least", x.adopt(1), 2);
        x.fails(1);
        Due.due("settled", x.adopt(1), Due.STATE);
        Due.due("debt above", x.adopt(2), Due.BEYOND);
        Due.due("debt below", x.adopt(-1), Due.BEYOND);
        FathersPay y = new FathersPay();
        y.person(0, 0, 0);
        y.debt(0, 5, 0);
        Due.due("alone", y.adopt(0), Due.NONE);
        y.person(0, 0, 0);
        Due.due("one who makes it no less", y.adopt(0), 1);
        y.parent(0, 1, 1);
        Due.due("the MOTHER alone", y.adopt(0), Due.NONE);
        y.parent(0, 1, -1);
        y.parent(1, 1, 0);
        Due.due("under alone", y.adopt(0), Due.NONE);
        y.person(0, 0, 0);
        y.parent(2, 0, 1);
        Due.due("under in two steps", y.adopt(0), Due.NONE);
        Due.due("told of NONE", y.told(2), 4);
    }

    private static void promise24() {
        FathersPay x = diamond();
        Due.due("no DEBT", x.needs(), 0);
        x.debt(0, 61, 0);
        Due.due("one", x.needs(), 10);
        x.debt(3, 7, 0);
        Due.due("3 has nothing left by then", x.needs(), 17);
        x.debt(1, 99999, 77);
        Due.due("LOST together", x.needs(), 100016);
        unchanged(x);
        x.fails(0);
        Due.due("OWED ones alone", x.needs(), 100006);
    }
}
