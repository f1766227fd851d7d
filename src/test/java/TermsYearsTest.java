import java.util.Arrays;

/** Term 3, sentence by sentence: DAYS, YEARS, deaths, DRAWS. */
public final class TermsYearsTest {
    public static void main(String[] args) {
        dayDue();
        dayByNumbers();
        dayOwed();
        dayBehind();
        yearAliveByNumbers();
        yearPurseMore();
        yearRestBelowFrail();
        yearDrawsOfEach();
        leastAliveChild();
        asMuchAsItHolds();
        withoutAnyChild();
        houseLikewise();
        theirsAreZero();
        fathersAndMothersStay();
        drawsAtFirst();
        drawsWrap();
        Due.end();
    }

    private static void dayDue() {
        Due.sentence("Term 3: A DAY: DEBTS that are OWED and DUE on TODAY (or ahead of it) are in DEFAULT");
        FathersPay x = Towns.poor(1);
        x.days(5);
        for (int due = 3; due <= 7; due++) {
            x.debt(0, 1, due);
        }
        x.days(1);
        int[] owed = {0, 0, 0, 1, 1};
        for (int d = 0; d < 5; d++) {
            Due.due("DUE on " + (3 + d) + ", on day 5", x.debtIs(d, 3), owed[d]);
        }
        x.days(1);
        Due.due("on day 6", x.debtIs(3, 3), 0);
        Due.due("not yet", x.debtIs(4, 3), 1);
        x.days(1);
        Due.due("on day 7", x.debtIs(4, 3), 0);
        Due.due("THE TOWN", x.count(5), -5);
        x.debt(0, 1, 0);
        Due.due("no DAY, no DEFAULT", x.debtIs(5, 3), 1);
        x.days(1);
        Due.due("DUE on 0, on day 8", x.debtIs(5, 3), 0);
        x.debt(0, 1, 68);
        x.debt(0, 1, 69);
        x.days(60);
        Due.due("on the last of 60 DAYS", x.debtIs(6, 3), 0);
        Due.due("behind the last of 60 DAYS", x.debtIs(7, 3), 1);
    }

    private static void dayByNumbers() {
        Due.sentence("Term 3: A DAY: DEBTS by numbers");
        FathersPay x = Towns.poor(3);
        x.parent(0, 0, 2);
        x.parent(1, 0, 2);
        x.set(2, 5, 7);
        Towns.become(x, 2, 600);
        Towns.tell(x, Texts.ANSWERS, "p=7&c=5|c=6&p=6");
        x.debt(1, 5, 3);
        x.debt(0, 6, 0);
        x.days(3);
        x.debt(0, 6, 1);
        Due.due("nothing paid of 6 with 7", x.personIs(2, 5), 7);
        x.days(1);
        // the DEBT of 5 first, though it was DUE last: 1 of it, then 1 of 6
        Due.due("by numbers, not by DAYS", x.personIs(2, 5), 5);
        Due.due("THE TOWN", x.count(5), -6 - 4 - 5);
    }

    private static void dayOwed() {
        Due.sentence("Term 3: A DAY: DEBTS that are OWED");
        FathersPay x = Towns.poor(1);
        x.set(0, 5, 9);
        x.debt(0, 4, 0);
        x.debt(0, 2, 0);
        x.settle(0);
        x.fails(1);
        x.days(1);
        Due.due("settled ones aren't in DEFAULT again", x.personIs(0, 5), 3);
        Due.due("nor DUE twice", x.days(60), 61);
        Due.due("so", x.personIs(0, 5), 3);
    }

    private static void dayBehind() {
        Due.sentence("Term 3: A DAY: then TODAY is 1 more");
        FathersPay x = Towns.poor(1);
        for (int day = 1; day <= 3; day++) {
            Due.due("TODAY", x.days(1), day);
            Due.due("TODAY", x.count(4), day);
        }
        Due.due("z stays", x.count(9), 1);
    }

    private static void yearAliveByNumbers() {
        Due.sentence("Term 3: A YEAR: each PERSON ALIVE by numbers");
        FathersPay x = Towns.poor(3);
        x.parent(0, 0, 1);
        x.parent(2, 0, 1);
        Towns.give(x, 0, 5, 0);
        Towns.give(x, 1, 10, 0);
        Towns.give(x, 2, 3, 0);
        x.set(1, 7, 9);
        x.seed(Draws.seedFor(-1, 0));
        Towns.tell(x, Texts.FRESH, "p");
        Due.due("one dies", x.years(1), 1);
        Due.due("0 had its FRESH ahead of what comes from 1", x.personIs(0, 5), 5 + 5 + 20);
        Due.due("2 gets nothing of it", x.personIs(2, 5), 6);
        x.parent(0, 0, -1);
        x.parent(2, 0, -1);
        Due.due("a dead one", x.years(1), 0);
        Due.due("gets no FRESH", x.personIs(1, 5), 0);
        FathersPay y = Towns.poor(2);
        y.parent(1, 0, 0);
        Towns.give(y, 0, 10, 0);
        Towns.give(y, 1, 5, 0);
        y.set(0, 7, 9);
        y.seed(Draws.seedFor(0));
        Towns.tell(y, Texts.FRESH, "p");
        y.years(1);
        Due.due("1 has its FRESH behind what comes from 0", y.personIs(1, 5), (5 + 20) * 2);
    }

    private static void yearPurseMore() {
        Due.sentence("Term 3: A YEAR: PURSE more by FRESH (99999 at most)");
        int[][] due = {{0, 0, 0}, {0, 9999, 9999}, {90000, 9998, 99998}, {90000, 9999, 99999}, {90001, 9999, 99999},
            {99998, 1, 99999}, {99998, 2, 99999}, {99999, 0, 99999}, {99999, 1, 99999}};
        for (int[] d : due) {
            FathersPay x = new FathersPay();
            x.person(0, d[0], 0);
            Towns.tell(x, Texts.FRESH, "" + d[1]);
            x.years(1);
            Due.due("PURSE of " + d[0] + " by " + d[1], x.personIs(0, 5), d[2]);
            Due.due("what is too much is nobody's", x.count(5), 0);
        }
    }

    private static void yearRestBelowFrail() {
        Due.sentence("Term 3: A YEAR: then a draw's rest by 10 below FRAIL: they aren't ALIVE any more");
        for (int frail = 0; frail <= 9; frail++) {
            for (int rest = 0; rest <= 9; rest++) {
                FathersPay x = Towns.poor(1);
                x.set(0, 7, frail);
                x.seed(Draws.seedFor(rest));
                Due.due("FRAIL " + frail + ", rest " + rest, x.years(1), rest < frail ? 1 : 0);
                Due.due("ALIVE", x.personIs(0, 4), rest < frail ? 0 : 1);
            }
        }
        Due.sentence("Term 3: A YEAR: FRESH first, then the draw");
        FathersPay x = Towns.poor(1);
        x.set(0, 7, 9);
        x.seed(Draws.seedFor(0));
        Towns.tell(x, Texts.FRESH, "7");
        x.years(1);
        Due.due("FRESH of one who dies", x.count(5), 7);
    }

    private static void yearDrawsOfEach() {
        Due.sentence("Term 3: A YEAR: a draw of each PERSON ALIVE");
        for (int alive = 0; alive <= 12; alive++) {
            FathersPay x = Towns.poor(12);
            for (int p = alive; p < 12; p++) {
                x.set(p, 4, 0);
            }
            x.seed(5);
            x.years(2);
            int z = 5;
            for (int i = 0; i < 2 * alive; i++) {
                z = Draws.next(z);
            }
            Due.due("z by " + alive, x.count(9), z);
        }
    }

    /** One of five dies with 100 and 60; who of the others are children (1 as FATHER, 2 as MOTHER) and ALIVE. */
    private static FathersPay dies(int who, int[] ways, int[] alive) {
        FathersPay x = Towns.poor(5);
        for (int p = 0; p < 5; p++) {
            if (ways[p] > 0) {
                x.parent(p, ways[p] - 1, who);
            }
            x.set(p, 4, alive[p]);
        }
        Towns.give(x, who, 100, 60);
        x.set(who, 7, 9);
        Towns.tell(x, Texts.FRESH, "0");
        int before = 0;
        for (int p = 0; p < who; p++) {
            before += alive[p];
        }
        int[] rests = new int[before + 1];
        Arrays.fill(rests, 0, before, -1);
        x.seed(Draws.seedFor(rests));
        Due.due("one dies", x.years(1), 1);
        return x;
    }

    private static void leastAliveChild() {
        Due.sentence("Term 3: their PURSE goes to that of the least ALIVE child (theirs as FATHER or MOTHER)");
        int[] all = {1, 1, 1, 1, 1};
        int[][] ways = {{0, 0, 0, 1, 2}, {0, 0, 0, 2, 1}, {1, 0, 0, 1, 1}, {2, 0, 1, 0, 0}, {0, 0, 2, 0, 2}, {0, 0, 0, 0, 1}};
        int[] heir = {3, 3, 0, 0, 2, 4};
        for (int i = 0; i < heir.length; i++) {
            FathersPay x = dies(1, ways[i], all);
            for (int p = 0; p < 5; p++) {
                Due.due("PURSE of " + p, x.personIs(p, 5), p == heir[i] ? 100 : 0);
                Due.due("HOUSE of " + p, x.personIs(p, 6), p == heir[i] ? 60 : 0);
            }
            Due.due("nothing to THE TOWN", x.count(5), 0);
        }
        FathersPay x = dies(1, new int[] {1, 0, 2, 1, 1}, new int[] {0, 1, 0, 1, 1});
        Due.due("dead children get nothing", x.personIs(0, 5) + x.personIs(2, 5), 0);
        Due.due("the least ALIVE one", x.personIs(3, 5), 100);
        Due.due("its HOUSE", x.personIs(3, 6), 60);
        FathersPay y = Towns.poor(2);
        y.parent(0, 0, 1);
        Towns.give(y, 1, 100, 0);
        y.set(0, 7, 9);
        y.set(1, 7, 9);
        y.seed(Draws.seedFor(0, 0));
        Due.due("both in one YEAR", y.years(1), 2);
        Due.due("who died ahead gets nothing", y.personIs(0, 5), 0);
        Due.due("THE TOWN", y.count(5), 100);
    }

    private static void asMuchAsItHolds() {
        Due.sentence("Term 3: as much as it holds; the rest to THE TOWN's");
        int[][] due = {{99898, 99998, 0}, {99899, 99999, 0}, {99900, 99999, 1}, {99998, 99999, 99}, {99999, 99999, 100}};
        for (int[] d : due) {
            FathersPay x = Towns.poor(2);
            x.parent(0, 1, 1);
            x.set(0, 5, d[0]);
            x.set(1, 5, 100);
            x.set(1, 7, 9);
            x.seed(Draws.seedFor(-1, 0));
            x.years(1);
            Due.due("PURSE of " + d[0] + " and 100", x.personIs(0, 5), d[1]);
            Due.due("the rest", x.count(5), d[2]);
            Due.due("no HOUSE of it", x.personIs(0, 6), 0);
        }
    }

    private static void withoutAnyChild() {
        Due.sentence("Term 3: the rest, or without any all, to THE TOWN's");
        int[][] ways = {{0, 0, 0, 0, 0}, {1, 0, 0, 2, 1}};
        int[][] alive = {{1, 1, 1, 1, 1}, {0, 1, 1, 0, 0}};
        for (int i = 0; i < ways.length; i++) {
            FathersPay x = dies(1, ways[i], alive[i]);
            Due.due("all", x.count(5), 160);
            for (int p = 0; p < 5; p++) {
                Due.due("nobody else's PURSE", x.personIs(p, 5), 0);
                Due.due("nobody else's HOUSE", x.personIs(p, 6), 0);
            }
        }
        FathersPay y = Towns.family(3);
        y.set(0, 5, 9);
        y.set(0, 7, 9);
        y.seed(Draws.seedFor(0));
        y.years(1);
        Due.due("not to FATHER or MOTHER", y.personIs(1, 5) + y.personIs(2, 5), 0);
        Due.due("but to THE TOWN", y.count(5), 9);
    }

    private static void houseLikewise() {
        Due.sentence("Term 3: the HOUSE likewise to its HOUSE");
        int[][] due = {{99898, 99998, 0}, {99899, 99999, 0}, {99900, 99999, 1}, {99998, 99999, 99}, {99999, 99999, 100}};
        for (int[] d : due) {
            FathersPay x = Towns.poor(2);
            x.parent(0, 0, 1);
            x.set(0, 6, d[0]);
            x.set(1, 6, 100);
            x.set(1, 7, 9);
            Towns.tell(x, Texts.FRESH, "0");
            x.seed(Draws.seedFor(-1, 0));
            x.years(1);
            Due.due("HOUSE of " + d[0] + " and 100", x.personIs(0, 6), d[1]);
            Due.due("the rest", x.count(5), d[2]);
            Due.due("no PURSE of it", x.personIs(0, 5), 0);
        }
    }

    private static void theirsAreZero() {
        Due.sentence("Term 3: theirs are 0");
        for (int childs = 0; childs <= 1; childs++) {
            FathersPay x = Towns.poor(2);
            x.parent(1, 0, childs == 0 ? -1 : 0);
            Towns.give(x, 0, 99999, 99999);
            Towns.give(x, 1, 5, 5);
            x.set(0, 7, 9);
            x.seed(Draws.seedFor(0));
            x.years(1);
            Due.due("PURSE", x.personIs(0, 5), 0);
            Due.due("HOUSE", x.personIs(0, 6), 0);
            Due.due("ALIVE", x.personIs(0, 4), 0);
        }
    }

    private static void fathersAndMothersStay() {
        Due.sentence("Term 3: FATHERS and MOTHERS stay");
        FathersPay x = Towns.family(4);
        x.parent(1, 0, 3);
        x.set(1, 7, 9);
        x.set(2, 7, 9);
        x.seed(Draws.seedFor(-1, 0, 0));
        Due.due("both die", x.years(1), 2);
        Due.due("FATHER", x.personIs(0, 2), 1);
        Due.due("MOTHER", x.personIs(0, 3), 2);
        Due.due("FATHER of the dead one", x.personIs(1, 2), 3);
        Due.due("FRAIL stays", x.personIs(1, 7), 9);
        x.set(3, 5, 50);
        x.debt(0, 20, 0);
        Due.due("it goes up past them", x.called(0, 3), 10);
    }

    private static void drawsAtFirst() {
        Due.sentence("Term 3: DRAWS: z is told (1 at first)");
        FathersPay x = Towns.poor(1);
        Due.due("z", x.count(9), 1);
        x.years(1);
        Due.due("z * 1103515245 + 12345", x.count(9), 1103527590);
        Due.due("told by seed(), too", x.seed(1), 1103527590);
        Due.due("z", x.count(9), 1);
    }

    private static void drawsWrap() {
        Due.sentence("Term 3: DRAWS: each makes it z * 1103515245 + 12345 (an int), and gives z >>> 8");
        int[] seeds = {0, 1, 2, 3, -1, 77, Integer.MIN_VALUE, Integer.MAX_VALUE, -1103515245, 123456789};
        for (int seed : seeds) {
            FathersPay x = Towns.poor(12);
            for (int p = 0; p < 12; p++) {
                x.set(p, 7, 5);
            }
            x.seed(seed);
            x.years(1);
            int z = seed;
            for (int p = 0; p < 12; p++) {
                z = Draws.next(z);
                Due.due("ALIVE " + p + " by " + seed, x.personIs(p, 4), Draws.rest(z) < 5 ? 0 : 1);
            }
            Due.due("z by " + seed, x.count(9), z);
        }
    }
}
