/** Promises 8 to 14: DEBTS, DEFAULTS, DAYS, YEARS, DRAWS. */
public final class DebtsTest {
    public static void main(String[] args) {
        promise8();
        promise9();
        promise10();
        promise10KindsAtEachStep();
        promise10StepsHalvesSisters();
        promise11();
        promise12();
        promise13();
        promise13Deaths();
        promise13TheTownsEnds();
        promise14();
        Due.end();
    }

    private static void promise8() {
        FathersPay x = new FathersPay();
        x.person(0, 0, 0);
        int[][] beyond = {{1, 1, 0}, {-1, 1, 0}, {0, 0, 0}, {0, -1, 0}, {0, 100000, 0}, {0, 1, -1}, {0, 1, 10000}};
        for (int[] b : beyond) {
            Due.due("debt(" + b[0] + ", " + b[1] + ", " + b[2] + ")", x.debt(b[0], b[1], b[2]), Due.BEYOND);
        }
        Due.due("none came", x.count(2), 0);
        x.set(0, 4, 0);
        for (int d = 0; d < 10; d++) {
            Due.due("a DEBT", x.debt(0, d == 0 ? 99999 : d, d == 1 ? 9999 : 0), d);
        }
        Due.due("BEYOND ahead of FULL", x.debt(0, 0, 0), Due.BEYOND);
        Due.due("FULL", x.debt(0, 1, 1), Due.FULL);
        x.fails(3);
        Due.due("a settled one takes its place", x.debt(0, 1, 1), Due.FULL);
        Due.due("ten", x.count(2), 10);
        Due.due("nine OWED", x.count(3), 9);
    }

    private static void promise9() {
        FathersPay x = new FathersPay();
        x.person(0, 0, 0);
        x.person(0, 0, 0);
        x.debt(1, 345, 67);
        int[] at = {1, 345, 67, 1};
        for (int what = 0; what < 4; what++) {
            Due.due("debtIs(0, " + what + ")", x.debtIs(0, what), at[what]);
        }
        Due.due("what above", x.debtIs(0, 4), Due.BEYOND);
        Due.due("what below", x.debtIs(0, -1), Due.BEYOND);
        Due.due("debt above", x.debtIs(1, 0), Due.BEYOND);
        Due.due("debt below", x.debtIs(-1, 0), Due.BEYOND);
        x.fails(0);
        Due.due("settled", x.debtIs(0, 3), 0);
        Due.due("SUM stays", x.debtIs(0, 1), 345);
    }

    private static void promise10() {
        FathersPay x = new FathersPay();
        x.person(0, 10, 5);
        x.person(0, 7, 20);
        x.person(0, 3, 0);
        x.parent(0, 0, 1);
        x.parent(0, 1, 2);
        x.debt(0, 40, 9);
        // 15 at once; of 25 the greater half 13 to the FATHER, 12 to the MOTHER, who has but 3
        Due.due("LOST", x.fails(0), 9);
        Due.due("PURSE first", x.personIs(0, 5), 0);
        Due.due("then HOUSE", x.personIs(0, 6), 0);
        Due.due("FATHER's PURSE", x.personIs(1, 5), 0);
        Due.due("FATHER's HOUSE", x.personIs(1, 6), 14);
        Due.due("MOTHER's PURSE", x.personIs(2, 5), 0);
        Due.due("THE TOWN", x.count(5), -9);
        Due.due("settled", x.debtIs(0, 3), 0);
        Due.due("no more", x.fails(0), Due.STATE);
        Due.due("debt above", x.fails(1), Due.BEYOND);
        Due.due("debt below", x.fails(-1), Due.BEYOND);
        x.debt(0, 4, 0);
        x.parent(0, 0, -1);
        Due.due("MOTHER alone", x.fails(1), 4);
        x.parent(0, 0, 1);
        x.parent(0, 1, -1);
        x.debt(0, 4, 0);
        Due.due("FATHER alone", x.fails(2), 0);
        Due.due("he paid", x.personIs(1, 6), 10);
        Due.due("THE TOWN", x.count(5), -13);
    }

    /** LOST of c coins by somebody poor whose FATHER's FATHER (if steps is 2) is of a KIND and rich. */
    private static int lostAbove(int km, int steps, int c) {
        FathersPay x = new FathersPay();
        for (int p = 0; p < steps; p++) {
            x.person(0, 0, 0);
        }
        x.person(km, 50000, 49999);
        for (int p = 0; p < steps; p++) {
            x.parent(p, 0, p + 1);
        }
        x.debt(0, c, 0);
        return x.fails(0);
    }

    private static void promise10KindsAtEachStep() {
        int[][] due = {
            {0, 0, 701, 0}, {0, 1, 701, 0}, {0, 3, 701, 0},
            {102, 0, 701, 501}, {102, 1, 701, 501}, {102, 2, 701, 501}, {107, 1, 699, 0}, {100, 0, 5, 5},
            {250, 0, 701, 0}, {250, 1, 701, 701}, {250, 2, 1, 1},
            {300, 0, 701, 0}, {300, 1, 701, 350}, {300, 2, 701, 350}, {300, 1, 1, 0}, {300, 1, 2, 1},
            {402, 0, 701, 501}, {402, 1, 701, 501}, {402, 2, 701, 701}, {402, 3, 701, 701},
            {520, 0, 701, 0}, {520, 1, 701, 330}, {520, 2, 701, 330}, {599, 1, 100, 0}, {520, 1, 41, 0}, {520, 1, 42, 1},
            {605, 0, 701, 0}, {605, 2, 701, 0}, {0, 1, 99999, 0}};
        for (int[] d : due) {
            Due.due("LOST of " + d[2] + ", " + d[0] + " stands " + d[1] + " steps up", lostAbove(d[0], d[1], d[2]), d[3]);
        }
        FathersPay x = new FathersPay();
        x.person(0, 0, 0);
        x.person(200, 99, 99);
        x.person(0, 100, 0);
        x.parent(0, 0, 1);
        x.parent(1, 0, 2);
        x.debt(0, 50, 0);
        x.debt(0, 50, 0);
        x.debt(1, 250, 0);
        Due.due("from a SHUT one above it goes nowhere", x.lost(0), 50);
        Due.due("from a SHUT one who owes it goes up", x.lost(2), 0);
        x.set(1, 4, 0);
        Due.due("past a dead one it goes up, shut or not", x.fails(0), 0);
        Due.due("so", x.personIs(2, 5), 50);
        Due.due("the dead one paid nothing", x.personIs(1, 5), 99);
        x.set(0, 4, 0);
        x.set(0, 5, 70);
        Due.due("a dead one who owes pays nothing", x.fails(1), 0);
        Due.due("so", x.personIs(0, 5), 70);
        Due.due("but who is above does", x.personIs(2, 5), 0);
    }

    private static void promise10StepsHalvesSisters() {
        FathersPay x = new FathersPay();
        for (int p = 0; p < 11; p++) {
            x.person(0, 1, 0);
        }
        for (int p = 0; p < 10; p++) {
            x.parent(p, 0, p + 1);
        }
        x.debt(0, 100, 0);
        Due.due("nine STEPS: ten pay", x.lost(0), 90);
        Due.due("the tenth", x.called(0, 9), 1);
        Due.due("the eleventh", x.called(0, 10), 0);
        for (int steps = 1; steps <= 9; steps++) {
            x.rule(0, steps);
            Due.due("STEPS " + steps, x.lost(0), 99 - steps);
        }
        x.set(1, 4, 0);
        x.rule(0, 1);
        Due.due("THE LAW STOPS at dead ones, too", x.lost(0), 99);
        x.set(1, 4, 1);
        x.rule(0, 9);
        x.rule(1, 1);
        // 99 up: 49 called, 48 up: 24, 23: 11, 10: 5, 4: 2, 1: 0
        Due.due("HALVES", x.lost(0), 94);
        Due.due("HALVES stop it", x.called(0, 6), 0);
        Due.due("ahead of that", x.called(0, 5), 1);
        sisters();
    }

    private static void sisters() {
        FathersPay x = new FathersPay();
        x.person(0, 0, 0);
        x.person(0, 10, 0);
        x.person(0, 20, 0);
        x.person(200, 5, 6);
        x.person(0, 7, 0);
        x.person(0, 9, 0);
        for (int p = 2; p <= 5; p++) {
            x.parent(p, 0, 0);
            x.parent(p, 1, 1);
        }
        x.debt(5, 100, 0);
        x.debt(2, 30, 0);
        Due.due("without the law nobody asks them", x.lost(0), 81);
        x.rule(2, 1);
        Due.due("20 and 11 and 7 of sisters, 9 of oneself, 10 above", x.lost(0), 43);
        x.rule(1, 1);
        // 53 left by sisters: 26 go up, 13 each
        Due.due("HALVES but of what goes up from them", x.lost(0), 43);
        x.set(1, 5, 99);
        Due.due("so", x.called(0, 1), 13);
        x.rule(1, 0);
        Due.due("by numbers: 2 owes, 3 gives 10 of 11", x.called(1, 3), 10);
        Due.due("and 4 nothing", x.called(1, 4), 0);
        x.set(3, 4, 0);
        Due.due("a dead sister isn't asked", x.called(1, 4), 7);
        x.set(2, 4, 0);
        Due.due("those of a dead one are", x.called(1, 5), 9);
        x.set(3, 4, 1);
        x.set(2, 4, 1);
        x.parent(4, 0, -1);
        Due.due("nor a half one", x.called(0, 4), 0);
        x.parent(5, 0, -1);
        Due.due("none for whom a FATHER lacks", x.called(0, 4), 0);
        x.parent(4, 1, -1);
        x.parent(5, 1, -1);
        Due.due("none by two that lack", x.called(0, 4), 0);
        FathersPay y = new FathersPay();
        y.person(0, 0, 0);
        y.person(0, 0, 0);
        y.person(0, 0, 0);
        y.person(0, 50, 0);
        y.person(0, 0, 0);
        y.person(0, 0, 0);
        y.parent(2, 0, 0);
        y.parent(2, 1, 1);
        y.parent(3, 0, 0);
        y.parent(3, 1, 1);
        y.parent(4, 0, 2);
        y.debt(4, 40, 0);
        y.rule(2, 1);
        Due.due("sisters of those above aren't asked", y.lost(0), 40);
        y.parent(3, 0, 1);
        Due.due("FATHER and MOTHER changed about", y.parent(3, 1, 0), Due.STATE);
    }

    private static void promise11() {
        FathersPay x = new FathersPay();
        x.person(0, 10, 20);
        x.debt(0, 8, 0);
        x.debt(0, 5, 0);
        x.debt(0, 18, 0);
        x.debt(0, 1, 0);
        Due.due("of the PURSE", x.settle(0), 22);
        Due.due("PURSE", x.personIs(0, 5), 2);
        Due.due("HOUSE", x.personIs(0, 6), 20);
        Due.due("settled", x.debtIs(0, 3), 0);
        Due.due("no more", x.settle(0), Due.STATE);
        Due.due("of both", x.settle(1), 17);
        Due.due("PURSE", x.personIs(0, 5), 0);
        Due.due("HOUSE", x.personIs(0, 6), 17);
        Due.due("not so much", x.settle(2), Due.STATE);
        Due.due("still OWED", x.debtIs(2, 3), 1);
        x.set(0, 5, 1);
        x.set(0, 4, 0);
        Due.due("not ALIVE", x.settle(2), Due.STATE);
        x.set(0, 4, 1);
        Due.due("just as much", x.settle(2), 0);
        Due.due("debt above", x.settle(4), Due.BEYOND);
        Due.due("debt below", x.settle(-1), Due.BEYOND);
        x.set(0, 0, 1);
        x.set(0, 1, 0);
        x.set(0, 6, 9);
        Due.due("of any KIND", x.settle(3), 8);
        Due.due("THE TOWN has nothing to do with it", x.count(5), 0);
    }

    private static void promise12() {
        FathersPay x = new FathersPay();
        x.person(0, 100, 0);
        x.debt(0, 10, 2);
        x.debt(0, 20, 0);
        x.debt(0, 95, 1);
        x.debt(0, 1, 9999);
        Due.due("n below", x.days(0), Due.BEYOND);
        Due.due("n above", x.days(61), Due.BEYOND);
        Due.due("n below 0", x.days(-1), Due.BEYOND);
        Due.due("a DAY", x.days(1), 1);
        Due.due("DUE on it", x.debtIs(1, 3), 0);
        Due.due("not yet", x.debtIs(2, 3), 1);
        Due.due("a DAY more", x.days(1), 2);
        Due.due("DUE on it", x.debtIs(2, 3), 0);
        Due.due("not yet", x.debtIs(0, 3), 1);
        Due.due("THE TOWN", x.count(5), -15);
        Due.due("two more", x.days(2), 4);
        Due.due("THE TOWN", x.count(5), -25);
        x.debt(0, 5, 1);
        Due.due("60 at once", x.days(60), 64);
        Due.due("DUE ahead of it", x.debtIs(4, 3), 0);
        Due.due("THE TOWN", x.count(5), -30);
        for (int i = 0; i < 165; i++) {
            x.days(60);
        }
        Due.due("TODAY", x.count(4), 9964);
        Due.due("it would be 10000", x.days(36), Due.STATE);
        Due.due("TODAY stays", x.count(4), 9964);
        Due.due("9999", x.days(35), 9999);
        Due.due("not yet", x.debtIs(3, 3), 1);
        Due.due("no DAY more", x.days(1), Due.STATE);
        Due.due("BEYOND first", x.days(61), Due.BEYOND);
        byNumbers();
    }

    private static void byNumbers() {
        FathersPay x = new FathersPay();
        x.person(0, 0, 0);
        x.person(0, 0, 0);
        x.person(0, 10, 0);
        x.parent(0, 0, 2);
        x.parent(1, 0, 2);
        x.debt(0, 8, 3);
        x.debt(1, 8, 0);
        x.debt(1, 1, 3);
        x.days(3);
        Due.due("the second came first", x.personIs(2, 5), 2);
        Due.due("so", x.count(3), 2);
        Due.due("LOST of 0", x.lost(0), 6);
        Due.due("LOST of 2", x.lost(2), 0);
        x.days(1);
        Due.due("0 took all that was left", x.count(5), -7);
    }

    private static void promise13() {
        FathersPay x = new FathersPay();
        x.person(0, 99990, 399);
        x.person(0, 0, 20);
        x.person(0, 0, 19);
        x.set(2, 4, 0);
        Due.due("n below", x.years(0), Due.BEYOND);
        Due.due("n above", x.years(21), Due.BEYOND);
        Due.due("n below 0", x.years(-20), Due.BEYOND);
        Due.due("z stays by BEYOND", x.count(9), 1);
        Due.due("nobody dies", x.years(1), 0);
        Due.due("at most 99999", x.personIs(0, 5), 99999);
        Due.due("h / 20", x.personIs(1, 5), 1);
        Due.due("a dead one gets nothing", x.personIs(2, 5), 0);
        Due.due("two draws", x.count(9), (1103515245 + 12345) * 1103515245 + 12345);
        Due.due("TODAY stays", x.count(4), 0);
        Due.due("twenty", x.years(20), 0);
        Due.due("h / 20, twenty times", x.personIs(1, 5), 21);
        Due.due("HOUSE stays", x.personIs(1, 6), 20);
    }

    private static void promise13Deaths() {
        for (int frail = 0; frail <= 9; frail++) {
            for (int draw = 0; draw <= 9; draw++) {
                FathersPay x = new FathersPay();
                x.person(0, 0, 0);
                x.set(0, 7, frail);
                x.seed(Draws.seedFor(draw));
                Due.due("FRAIL " + frail + ", rest " + draw, x.years(1), draw < frail ? 1 : 0);
                Due.due("ALIVE", x.personIs(0, 4), draw < frail ? 0 : 1);
            }
        }
        FathersPay x = new FathersPay();
        x.person(0, 500, 600);
        x.person(0, 0, 0);
        x.person(0, 99000, 99999);
        x.person(0, 5, 7);
        x.set(0, 7, 9);
        x.parent(1, 0, 0);
        x.parent(2, 1, 0);
        x.parent(3, 1, 0);
        x.set(1, 4, 0);
        x.seed(Draws.seedFor(0));
        x.set(2, 5, 99700);
        // FRESH first: 30 of its HOUSE; the least ALIVE child, 2, gets 299 of 530; its own FRESH is cut by 99999
        Due.due("one dies", x.years(1), 1);
        Due.due("its PURSE", x.personIs(0, 5), 0);
        Due.due("its HOUSE", x.personIs(0, 6), 0);
        Due.due("not ALIVE", x.personIs(0, 4), 0);
        Due.due("the least child isn't ALIVE", x.personIs(1, 5), 0);
        Due.due("the next one: as much as it holds", x.personIs(2, 5), 99999);
        Due.due("its HOUSE holds no more", x.personIs(2, 6), 99999);
        Due.due("3 gets nothing", x.personIs(3, 5), 5);
        Due.due("the rest is THE TOWN's", x.count(5), 231 + 600);
        Due.due("FATHERS stay", x.personIs(1, 2), 0);
        Due.due("MOTHERS stay", x.personIs(2, 3), 0);
        Due.due("FRAIL stays", x.personIs(0, 7), 9);
        FathersPay y = new FathersPay();
        y.person(0, 10, 0);
        y.person(0, 20, 40);
        y.parent(0, 1, 1);
        y.set(1, 7, 9);
        y.seed(Draws.seedFor(-1, 0));
        Due.due("the HOUSE to its HOUSE", y.years(1), 1);
        Due.due("PURSE", y.personIs(0, 5), 32);
        Due.due("HOUSE", y.personIs(0, 6), 40);
        y.set(0, 7, 9);
        y.seed(Draws.seedFor(3));
        Due.due("without a child", y.years(20), 1);
        Due.due("THE TOWN gets all", y.count(5), 32 + 40 + 2);
        int z = y.count(9);
        Due.due("nobody is left to die", y.years(20), 0);
        Due.due("and none draws", y.count(9), z);
        Due.due("one draw alone", z, Draws.next(Draws.seedFor(3)));
    }

    private static void promise13TheTownsEnds() {
        FathersPay x = new FathersPay();
        for (int p = 0; p < 10; p++) {
            x.person(0, 99999, 99999);
            x.set(p, 7, 9);
        }
        x.years(20);
        Due.due("THE TOWN holds 999999 at most", x.count(5), x.count(1) == 0 ? 999999 : -1);
        FathersPay y = new FathersPay();
        y.person(0, 0, 0);
        for (int d = 0; d < 10; d++) {
            y.debt(0, 99999, 0);
        }
        y.days(1);
        Due.due("ten DEBTS' worth below", y.count(5), -999990);
    }

    private static void promise14() {
        FathersPay x = new FathersPay();
        Due.due("z was 1", x.seed(-1000000003), 1);
        Due.due("any number", x.count(9), -1000000003);
        Due.due("what it was", x.seed(Integer.MIN_VALUE), -1000000003);
        Due.due("what it was", x.seed(Integer.MAX_VALUE), Integer.MIN_VALUE);
        Due.due("what it was", x.seed(0), Integer.MAX_VALUE);
        for (int k = 1; k <= 6; k++) {
            Due.due("none of them is an ERROR", x.told(k), 0);
        }
    }
}
