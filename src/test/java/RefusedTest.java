import java.util.function.Consumer;

/** The Terms' first words: an ERROR changes nothing but what told() tells, and ERRORS are asked in their order. */
public final class RefusedTest {
    private static final Consumer<FathersPay> TWELVE = x -> {
        while (x.count(0) < 12) {
            x.person(0, 0, 0);
        }
    };
    private static final Consumer<FathersPay> TEN_DEBTS = x -> {
        while (x.count(2) < 10) {
            x.debt(1, 5, 5);
        }
    };

    public static void main(String[] args) {
        Due.sentence("Terms: one that answers an ERROR changes nothing but what told() tells");
        byPersons();
        byParents();
        byDebts();
        byDaysAndYears();
        byTexts();
        byWhatWouldBe();
        bySheets();
        byRestOfAll();
        whereTold();
        byAskingOnly();
        inTheirOrder();
        inTheirOrderOfSheets();
        Due.end();
    }

    private static void byPersons() {
        Twins.refused("person of km", x -> x.person(700, 1, 1), Due.BEYOND);
        Twins.refused("person of purse", x -> x.person(1, 100000, 1), Due.BEYOND);
        Twins.refused("person of house", x -> x.person(1, 1, -1), Due.BEYOND);
        Twins.refused("person", TWELVE, x -> x.person(1, 1, 1), Due.FULL);
        Twins.refused("personIs of person", x -> x.personIs(5, 1), Due.BEYOND);
        Twins.refused("personIs of what", x -> x.personIs(0, 10), Due.BEYOND);
        Twins.refused("as of person", x -> x.as(-1, 0), Due.BEYOND);
        Twins.refused("as of kind", x -> x.as(0, 7), Due.BEYOND);
        Twins.refused("as", x -> x.as(0, 1), Due.KIND);
        Twins.refused("set of person", x -> x.set(5, 5, 1), Due.BEYOND);
        for (int what = 2; what <= 3; what++) {
            int of = what;
            Twins.refused("set of what " + what, x -> x.set(0, of, 1), Due.BEYOND);
        }
        int[][] beyond = {{0, 7}, {1, 100}, {4, 2}, {5, 100000}, {6, 100000}, {7, 10}, {0, -1}, {1, -1}, {4, -1}, {5, -1}, {6, -1},
            {7, -1}};
        for (int[] b : beyond) {
            Twins.refused("set of " + b[0] + " to " + b[1], x -> x.set(1, b[0], b[1]), Due.BEYOND);
        }
        int[][] laws = {{0, 0}, {0, 10}, {1, 2}, {1, -1}, {2, 2}, {2, -1}, {3, 0}, {-1, 1}};
        for (int[] l : laws) {
            Twins.refused("rule of " + l[0] + " to " + l[1], x -> x.rule(l[0], l[1]), Due.BEYOND);
        }
    }

    private static void byParents() {
        Twins.refused("parent of person", x -> x.parent(5, 0, 1), Due.BEYOND);
        Twins.refused("parent of what", x -> x.parent(1, 2, 4), Due.BEYOND);
        Twins.refused("parent of other", x -> x.parent(1, 0, 5), Due.BEYOND);
        Twins.refused("parent of other", x -> x.parent(1, 0, -2), Due.BEYOND);
        Twins.refused("oneself", x -> x.parent(2, 0, 2), Due.STATE);
        Twins.refused("a child as FATHER", x -> x.parent(1, 0, 0), Due.STATE);
        Twins.refused("a child's child as MOTHER", x -> x.parent(1, 1, 4), Due.STATE);
        Twins.refused("the FATHER as MOTHER", x -> x.parent(0, 1, 1), Due.STATE);
        Twins.refused("the MOTHER as FATHER", x -> x.parent(0, 0, 2), Due.STATE);
    }

    private static void byDebts() {
        Twins.refused("debt of person", x -> x.debt(5, 1, 1), Due.BEYOND);
        Twins.refused("debt of sum", x -> x.debt(0, 0, 1), Due.BEYOND);
        Twins.refused("debt of sum", x -> x.debt(0, 100000, 1), Due.BEYOND);
        Twins.refused("debt of due", x -> x.debt(0, 1, 10000), Due.BEYOND);
        Twins.refused("debt", TEN_DEBTS, x -> x.debt(0, 1, 1), Due.FULL);
        Twins.refused("debtIs of debt", x -> x.debtIs(4, 1), Due.BEYOND);
        Twins.refused("debtIs of what", x -> x.debtIs(0, 4), Due.BEYOND);
        Twins.refused("fails of debt", x -> x.fails(4), Due.BEYOND);
        Twins.refused("fails", x -> x.fails(2), Due.STATE);
        Twins.refused("settle of debt", x -> x.settle(-1), Due.BEYOND);
        Twins.refused("settle", x -> x.settle(2), Due.STATE);
        Twins.refused("settle by one who has not so much", x -> x.settle(0), Due.STATE);
        Twins.refused("settle by a dead one", x -> {
            x.set(4, 5, 500);
            x.set(4, 4, 0);
        }, x -> x.settle(3), Due.STATE);
    }

    private static void byDaysAndYears() {
        Twins.refused("days of 0", x -> x.days(0), Due.BEYOND);
        Twins.refused("days of 61", x -> x.days(61), Due.BEYOND);
        Twins.refused("days at the end", x -> {
            for (int i = 0; i < 166; i++) {
                x.days(60);
            }
        }, x -> x.days(39), Due.STATE);
        Twins.refused("years of 0", x -> x.years(0), Due.BEYOND);
        Twins.refused("years of 21", x -> x.years(21), Due.BEYOND);
    }

    private static void byTexts() {
        Twins.refused("feed of 0", x -> x.feed(-1L, 0), Due.BEYOND);
        Twins.refused("feed of 9", x -> x.feed(-1L, 9), Due.BEYOND);
        Twins.refused("feed", x -> {
            while (x.count(6) <= 52) {
                x.feed(Due.word("+1+1+1+1"), 8);
            }
        }, x -> x.feed(-1L, 8), Due.FULL);
        Twins.refused("text of -1", x -> x.text(-1), Due.BEYOND);
        Twins.refused("text of 2", x -> x.text(2), Due.BEYOND);
        Twins.refused("untell of -1", x -> x.untell(-1), Due.BEYOND);
        Twins.refused("untell of 2", x -> x.untell(2), Due.BEYOND);
    }

    private static void byWhatWouldBe() {
        Twins.refused("called of debt", x -> x.called(4, 0), Due.BEYOND);
        Twins.refused("called of person", x -> x.called(0, 5), Due.BEYOND);
        Twins.refused("called", x -> x.called(2, 0), Due.STATE);
        Twins.refused("lost of debt", x -> x.lost(4), Due.BEYOND);
        Twins.refused("lost", x -> x.lost(2), Due.STATE);
        Twins.refused("bespoke", x -> x.bespoke(5), Due.BEYOND);
        Twins.refused("safe of debt", x -> x.safe(4, 0), Due.BEYOND);
        Twins.refused("safe of part", x -> x.safe(0, 2), Due.BEYOND);
        Twins.refused("safe", x -> x.safe(2, 0), Due.STATE);
        Twins.refused("safe of ten FRAIL", x -> {
            TWELVE.accept(x);
            for (int p = 1; p <= 10; p++) {
                x.set(p, 7, 5);
            }
        }, x -> x.safe(0, 1), Due.STATE);
        Twins.refused("disown of person", x -> x.disown(5), Due.BEYOND);
        Twins.refused("disown", x -> x.disown(4), Due.NONE);
        Twins.refused("adopt of debt", x -> x.adopt(4), Due.BEYOND);
        Twins.refused("adopt of a settled one", x -> x.adopt(2), Due.STATE);
        Twins.refused("adopt for one who has a FATHER", x -> x.adopt(0), Due.STATE);
        Twins.refused("adopt where nobody can", x -> {
            x.parent(2, 0, 1);
            x.debt(1, 5, 5);
        }, x -> x.adopt(4), Due.NONE);
    }

    private static void bySheets() {
        Twins.refused("sheet of sheet", x -> x.sheet(4, 8, 1), Due.BEYOND);
        Twins.refused("sheet of bits", x -> x.sheet(0, 9, 1), Due.BEYOND);
        Twins.refused("sheet of n", x -> x.sheet(0, 32, 25), Due.BEYOND);
        Twins.refused("sheet of n", x -> x.sheet(0, 32, -1), Due.STATE);
        Twins.refused("put of sheet", x -> x.put(-1, 0, 1), Due.BEYOND);
        Twins.refused("put of i", x -> x.put(0, 6, 1), Due.BEYOND);
        Twins.refused("put of i", x -> x.put(0, -1, 1), Due.BEYOND);
        Twins.refused("put", x -> x.put(3, 0, 1), Due.NONE);
        Twins.refused("move of sheet", x -> x.move(4, 0, 0, 0, 1), Due.BEYOND);
        Twins.refused("move of other", x -> x.move(0, 0, 4, 0, 1), Due.BEYOND);
        Twins.refused("move of a missing one", x -> x.move(3, 0, 0, 0, 1), Due.NONE);
        Twins.refused("move to a missing one", x -> x.move(0, 0, 3, 0, 1), Due.NONE);
        Twins.refused("move of unlike bits", x -> x.move(0, 0, 1, 0, 1), Due.KIND);
        int[][] beyond = {{-1, 0, 1}, {0, -1, 1}, {0, 1, -1}, {0, 1, 6}, {1, 0, 6}, {0, 0, 7}, {6, 0, 1}, {0, 6, 1}};
        for (int[] b : beyond) {
            Twins.refused("move of " + b[2] + " from " + b[0] + " to " + b[1], x -> x.move(1, b[0], 1, b[1], b[2]), Due.BEYOND);
        }
        Twins.refused("debts of sheet", x -> x.debts(4), Due.BEYOND);
        Twins.refused("debts", x -> x.debts(3), Due.NONE);
        Twins.refused("judge of sheet", x -> x.judge(4, 0), Due.BEYOND);
        Twins.refused("judge of debt", x -> x.judge(0, 4), Due.BEYOND);
        Twins.refused("judge of a missing one", x -> x.judge(3, 0), Due.NONE);
        Twins.refused("judge of a settled one", x -> x.judge(0, 2), Due.STATE);
    }

    private static void byRestOfAll() {
        Twins.refused("voice of person", x -> x.voice(5, 0, 1), Due.BEYOND);
        Twins.refused("voice of voice", x -> x.voice(0, 4, 1), Due.BEYOND);
        Twins.refused("body", x -> x.body(5), Due.NONE);
        Twins.refused("body", x -> x.body(-1), Due.NONE);
        Twins.refused("tell", x -> {
            while (x.count(7) < 24) {
                x.tell(9);
            }
        }, x -> x.tell(1), Due.FULL);
        Twins.refused("count of 10", x -> x.count(10), Due.BEYOND);
        Twins.refused("count of -1", x -> x.count(-1), Due.BEYOND);
        Twins.refused("told of 0", x -> x.told(0), Due.BEYOND);
        Twins.refused("told of 7", x -> x.told(7), Due.BEYOND);
        FathersPay x = Towns.family(3);
        Due.due("restore", x.restore(), Due.NONE);
        Due.due("PERSONS stay", x.count(0), 3);
        Due.due("FATHER stays", x.personIs(0, 2), 1);
        Due.due("told", x.told(2), 1);
        Due.due("the first IMAGE", x.image(), 1);
    }

    private static void whereTold() {
        Due.sentence("Terms: one that answers an ERROR changes nothing, or where told: check(), none wait then, too");
        Twins.refusedBut("check of debt", x -> { }, x -> x.check(4), Due.BEYOND, x -> x.check(0));
        Twins.refusedBut("check of a settled one", x -> { }, x -> x.check(2), Due.STATE, x -> x.check(0));
        Due.sentence("Terms: or where told: THE TRACE of the latest voice(), a PARTED one");
        Twins.refusedBut("voice", x -> x.set(1, 1, 1), x -> x.voice(1, 3, 8), Due.PARTED, x -> {
            x.set(1, 1, 2);
            x.voice(1, 3, 8);
            x.set(1, 1, 1);
        });
        Due.sentence("Promise 30: up to the first that debt() would refuse (no ERROR then): nothing is told");
        FathersPay x = Towns.settled();
        x.put(0, 1, 0);
        Due.due("none came", x.debts(0), 0);
        TEN_DEBTS.accept(x);
        Due.due("none came", x.debts(1), 0);
        for (int k = 1; k <= 6; k++) {
            Due.due("told", x.told(k), 0);
        }
    }

    private static void byAskingOnly() {
        Due.sentence("Promises 3, 4, 9, 18 to 24, 26, 31, 36, 37: what only asks changes nothing, not even what is told");
        for (int what = 0; what <= 9; what++) {
            int of = what;
            Twins.unchanged("personIs of " + what, x -> x.personIs(0, of));
            Twins.unchanged("count of " + what, x -> x.count(of));
        }
        for (int what = 0; what <= 3; what++) {
            int of = what;
            Twins.unchanged("debtIs of " + what, x -> x.debtIs(1, of));
        }
        for (int k = 1; k <= 6; k++) {
            int of = k;
            Twins.unchanged("told of " + k, x -> x.told(of));
        }
        Twins.unchanged("as", x -> x.as(4, 3));
        Twins.unchanged("called", x -> x.called(0, 1));
        Twins.unchanged("lost", x -> x.lost(0));
        Twins.unchanged("bespoke", x -> x.bespoke(1));
        Twins.unchanged("safe above", x -> x.safe(0, 0));
        Twins.unchanged("safe below", x -> x.safe(1, 1));
        Twins.unchanged("disown", x -> x.disown(1));
        Twins.unchanged("adopt", x -> x.debt(2, 99, 9), x -> x.adopt(4));
        Twins.unchanged("needs", x -> x.needs());
        Twins.unchanged("body", x -> x.body(4));
        Twins.unchanged("judge", x -> x.judge(0, 0));
    }

    private static void inTheirOrder() {
        Due.sentence("Terms: Each act tells its ERRORS in the order in which they are asked");
        FathersPay x = Towns.settled();
        TWELVE.accept(x);
        TEN_DEBTS.accept(x);
        Due.due("person: BEYOND of km, FULL", x.person(700, 0, 0), Due.BEYOND);
        Due.due("person: BEYOND of purse, FULL", x.person(0, -1, 0), Due.BEYOND);
        Due.due("person: BEYOND of house, FULL", x.person(0, 0, 100000), Due.BEYOND);
        Due.due("as: BEYOND of person, KIND", x.as(12, 1), Due.BEYOND);
        Due.due("as: BEYOND of kind, KIND", x.as(1, 7), Due.BEYOND);
        Due.due("parent: BEYOND of what, STATE", x.parent(0, 2, 0), Due.BEYOND);
        Due.due("parent: BEYOND of person, STATE", x.parent(12, 0, 12), Due.BEYOND);
        Due.due("debt: BEYOND of person, FULL", x.debt(12, 1, 0), Due.BEYOND);
        Due.due("debt: BEYOND of sum, FULL", x.debt(0, 0, 0), Due.BEYOND);
        Due.due("debt: BEYOND of due, FULL", x.debt(0, 1, -1), Due.BEYOND);
        Due.due("called: BEYOND of person, STATE", x.called(2, 12), Due.BEYOND);
        Due.due("safe: BEYOND of part, STATE", x.safe(2, 2), Due.BEYOND);
        for (int p = 1; p < 12; p++) {
            x.set(p, 7, 1);
        }
        Due.due("safe: BEYOND of part, STATE of ten FRAIL", x.safe(0, -1), Due.BEYOND);
        Due.due("safe: BEYOND of debt, STATE of ten FRAIL", x.safe(10, 0), Due.BEYOND);
        Due.due("check: BEYOND of debt", x.check(10), Due.BEYOND);
        Due.due("voice: BEYOND of voice", x.voice(0, 4, 0), Due.BEYOND);
        while (x.count(6) < 60) {
            x.feed(0, 1);
        }
        Due.due("feed: BEYOND of n, FULL", x.feed(0, 9), Due.BEYOND);
        Due.due("feed: BEYOND of n, FULL", x.feed(0, 0), Due.BEYOND);
        for (int i = 0; i < 166; i++) {
            x.days(60);
        }
        x.days(38);
        Due.due("days: BEYOND of n, STATE", x.days(61), Due.BEYOND);
        Due.due("days: STATE alone", x.days(60), Due.STATE);
        FathersPay y = Towns.owingTen();
        Due.due("adopt: NONE alone", y.adopt(0), Due.NONE);
        y.fails(0);
        Due.due("adopt: STATE of a settled one, NONE", y.adopt(0), Due.STATE);
    }

    private static void inTheirOrderOfSheets() {
        Due.sentence("Terms: Each act tells its ERRORS in the order in which they are asked (SHEETS)");
        FathersPay x = Towns.settled();
        Due.due("sheet: BEYOND of sheet, STATE of n", x.sheet(4, 8, -1), Due.BEYOND);
        Due.due("sheet: BEYOND of bits, STATE of n", x.sheet(0, 9, -1), Due.BEYOND);
        Due.due("sheet: BEYOND of sheet, of bits 0", x.sheet(4, 0, -1), Due.BEYOND);
        Due.due("sheet: STATE of n, ahead of BEYOND of n", x.sheet(0, 8, -1), Due.STATE);
        Due.due("put: BEYOND of sheet", x.put(4, -1, 0), Due.BEYOND);
        Due.due("put: NONE, BEYOND of i", x.put(3, -1, 0), Due.NONE);
        Due.due("put: NONE, BEYOND of i", x.put(3, 24, 0), Due.NONE);
        Due.due("move: BEYOND of sheet, NONE of other", x.move(4, 0, 3, 0, 0), Due.BEYOND);
        Due.due("move: NONE of sheet, BEYOND of other", x.move(3, 0, 4, 0, 0), Due.BEYOND);
        Due.due("move: NONE, BEYOND of n", x.move(0, 0, 3, 0, -1), Due.NONE);
        Due.due("move: NONE, BEYOND of i", x.move(3, -1, 0, 0, 1), Due.NONE);
        Due.due("move: KIND, BEYOND of n", x.move(0, 0, 1, 0, -1), Due.KIND);
        Due.due("move: KIND, BEYOND of j", x.move(1, 0, 2, 7, 1), Due.KIND);
        Due.due("judge: BEYOND of sheet, STATE", x.judge(4, 2), Due.BEYOND);
        Due.due("judge: BEYOND of debt, NONE", x.judge(3, 4), Due.BEYOND);
        Due.due("judge: NONE, STATE", x.judge(3, 2), Due.NONE);
        Due.due("judge: STATE", x.judge(0, 2), Due.STATE);
    }
}
