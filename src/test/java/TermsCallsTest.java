/** Term 3, sentence by sentence: CALLS, what each KIND ANSWERS, what they PAY, UP, THE LAW, DEFAULTS. */
public final class TermsCallsTest {
    public static void main(String[] args) {
        notAlive();
        plain();
        bounded();
        shut();
        halving();
        taken();
        open();
        told();
        paysNoMoreThanAll();
        purseFirst();
        restGoesUp();
        shutAbove();
        lawStops();
        sistersOfBoth();
        sistersAlive();
        sistersByNumbers();
        sistersAsStepZero();
        sistersOfWhoOwesAlone();
        sistersAheadOfUp();
        neitherFatherNorMother();
        oneAlone();
        bothByHalves();
        halvesByLaw();
        theLaw();
        townIsLess();
        calledTwice();
        defaultSettles();
        Due.end();
    }

    /** What one pays of c coins CALLED from them so many steps up; they have 99999 and 99999. */
    private static int paid(int km, int s, int c) {
        FathersPay x = Towns.chain(s + 1, s % 3);
        Towns.become(x, s, km);
        Towns.give(x, s, 99999, 99999);
        x.debt(0, c, 0);
        return x.called(0, s);
    }

    private static void pays(int km, int s, int c, int due) {
        Due.due(km + " pays of " + c + ", " + s + " steps up", paid(km, s, c), due);
    }

    private static void notAlive() {
        Due.sentence("Term 3: if they aren't ALIVE, all of c goes UP from them (nothing is paid there)");
        for (int kind = 0; kind <= 6; kind++) {
            for (int s = 0; s <= 8; s++) {
                FathersPay x = Towns.chain(s + 2, s % 3);
                Towns.become(x, s, 100 * kind + 99);
                Towns.give(x, s, 500, 500);
                Towns.give(x, s + 1, 60, 40);
                x.debt(0, 100, 0);
                x.set(s, 4, 0);
                Due.due("the dead one", x.called(0, s), 0);
                Due.due("the one above", x.called(0, s + 1), 100);
                Due.due("LOST", x.fails(0), 0);
                Due.due("PURSE of the dead one", x.personIs(s, 5), 500);
                Due.due("HOUSE of the dead one", x.personIs(s, 6), 500);
            }
        }
    }

    private static void plain() {
        Due.sentence("Term 3: PERSON: c");
        for (int s = 0; s <= 9; s++) {
            for (int c : new int[] {1, 2, 99999}) {
                pays(0, s, c, c);
                pays(99, s, c, c);
            }
        }
    }

    private static void bounded() {
        Due.sentence("Term 3: BOUNDED: c, but 100 times m at most");
        for (int s = 0; s <= 9; s++) {
            pays(100, s, 1, 0);
            pays(101, s, 99, 99);
            pays(101, s, 100, 100);
            pays(101, s, 101, 100);
            pays(199, s, 9899, 9899);
            pays(199, s, 9900, 9900);
            pays(199, s, 9901, 9900);
            pays(199, s, 99999, 9900);
        }
    }

    private static void shut() {
        Due.sentence("Term 3: SHUT: 0, if s is above 0; else c");
        for (int c : new int[] {1, 2, 99999}) {
            pays(200, 0, c, c);
            pays(299, 0, c, c);
            for (int s = 1; s <= 9; s++) {
                pays(299, s, c, 0);
            }
        }
    }

    private static void halving() {
        Due.sentence("Term 3: HALVING: c, by 2 if s is above 0, the half that is greater by 1 for odd ones");
        for (int c : new int[] {1, 2, 3, 99999}) {
            pays(300, 0, c, c);
            pays(399, 0, c, c);
        }
        for (int s = 1; s <= 9; s++) {
            pays(399, s, 1, 1);
            pays(300, s, 2, 1);
            pays(300, s, 3, 2);
            pays(300, s, 4, 2);
            pays(399, s, 99998, 49999);
            pays(399, s, 99999, 50000);
        }
    }

    private static void taken() {
        Due.sentence("Term 3: TAKEN: as BOUNDED, but 0 if s is 2 or more");
        for (int s = 0; s <= 1; s++) {
            pays(400, s, 1, 0);
            pays(401, s, 99, 99);
            pays(401, s, 100, 100);
            pays(401, s, 101, 100);
            pays(499, s, 9901, 9900);
        }
        for (int s = 2; s <= 9; s++) {
            pays(499, s, 1, 0);
            pays(499, s, 99999, 0);
        }
    }

    private static void open() {
        Due.sentence("Term 3: OPEN: as HALVING, and m more (held within 0 .. c)");
        for (int c : new int[] {1, 2, 99, 100, 99999}) {
            pays(500, 0, c, c);
            pays(599, 0, c, c);
        }
        for (int s = 1; s <= 9; s++) {
            pays(500, s, 1, 1);
            pays(500, s, 2, 1);
            pays(500, s, 3, 2);
            pays(501, s, 1, 1);
            pays(501, s, 2, 2);
            pays(501, s, 3, 3);
            pays(501, s, 4, 3);
            pays(501, s, 5, 4);
            pays(599, s, 197, 197);
            pays(599, s, 198, 198);
            pays(599, s, 199, 199);
            pays(599, s, 200, 199);
            pays(599, s, 99999, 50099);
        }
    }

    private static void told() {
        Due.sentence("Term 3: TOLD: what ANSWERS gives");
        for (int s = 0; s <= 9; s++) {
            pays(600, s, 1, 1);
            pays(699, s, 99999, 99999);
            FathersPay x = Towns.chain(s + 1, s % 3);
            Towns.become(x, s, 642);
            Towns.give(x, s, 99999, 99999);
            x.debt(0, 1000, 0);
            Towns.tell(x, Texts.ANSWERS, "m*10+s");
            Due.due("ANSWERS", x.called(0, s), 420 + s);
            x.set(s, 0, 0);
            Due.due("of TOLD alone", x.called(0, s), 1000);
        }
    }

    private static void paysNoMoreThanAll() {
        Due.sentence("Term 3: What they PAY is a, but no more than PURSE and HOUSE hold together");
        int[][] all = {{0, 0}, {0, 7}, {7, 0}, {3, 4}, {99999, 99999}};
        for (int[] has : all) {
            int most = Math.min(99998, has[0] + has[1]);
            for (int c = Math.max(1, most - 1); c <= most + 1; c++) {
                for (int s = 0; s <= 1; s++) {
                    FathersPay x = Towns.chain(s + 1, 0);
                    Towns.give(x, s, has[0], has[1]);
                    x.debt(0, c, 0);
                    Due.due("pays of " + c + " with " + has[0] + " and " + has[1], x.called(0, s), Math.min(c, has[0] + has[1]));
                    Due.due("LOST", x.lost(0), Math.max(0, c - has[0] - has[1]));
                }
            }
        }
    }

    private static void purseFirst() {
        Due.sentence("Term 3: the PURSE is spent first");
        int[][] due = {{9, 1, 20}, {10, 0, 20}, {11, 0, 19}, {29, 0, 1}, {30, 0, 0}, {31, 0, 0}};
        for (int[] d : due) {
            for (int s = 0; s <= 1; s++) {
                FathersPay x = Towns.chain(s + 1, 1);
                Towns.give(x, s, 10, 20);
                x.debt(0, d[0], 0);
                x.fails(0);
                Due.due("PURSE by " + d[0], x.personIs(s, 5), d[1]);
                Due.due("HOUSE by " + d[0], x.personIs(s, 6), d[2]);
            }
        }
    }

    private static void restGoesUp() {
        Due.sentence("Term 3: What isn't paid (c less what they PAY) goes UP from them");
        FathersPay x = Towns.chain(3, 0);
        Towns.give(x, 0, 10, 0);
        Towns.give(x, 1, 20, 0);
        Towns.give(x, 2, 99, 0);
        for (int sum : new int[] {9, 10, 11, 30, 31, 129}) {
            x.debt(0, sum, 0);
        }
        int[][] due = {{9, 0, 0}, {10, 0, 0}, {10, 1, 0}, {10, 20, 0}, {10, 20, 1}, {10, 20, 99}};
        for (int d = 0; d < due.length; d++) {
            for (int p = 0; p < 3; p++) {
                Due.due("DEBT " + d + " from " + p, x.called(d, p), due[d][p]);
            }
            Due.due("LOST", x.lost(d), 0);
        }
        Due.sentence("Term 3: What isn't paid goes UP: also what isn't ANSWERED for");
        Towns.become(x, 0, 100);
        Towns.give(x, 1, 0, 0);
        Due.due("a BOUNDED one pays nothing", x.called(3, 0), 0);
        Due.due("all comes to the one above", x.called(3, 2), 30);
    }

    private static void shutAbove() {
        Due.sentence("Term 3: from a SHUT one that is above who owes (s above 0) it goes nowhere: to THE TOWN");
        for (int s = 0; s <= 8; s++) {
            FathersPay x = Towns.chain(s + 2, s % 3);
            Towns.become(x, s, 200);
            Towns.give(x, s, 5, 5);
            Towns.give(x, s + 1, 500, 0);
            x.debt(0, 100, 0);
            Due.due("from the SHUT one", x.called(0, s), s == 0 ? 10 : 0);
            Due.due("from the one above", x.called(0, s + 1), s == 0 ? 90 : 0);
            Due.due("LOST", x.lost(0), s == 0 ? 0 : 100);
        }
        Due.sentence("Term 3: SHUT ones by both ways, each to THE TOWN");
        FathersPay y = Towns.family(3);
        Towns.become(y, 1, 200);
        Towns.become(y, 2, 200);
        y.debt(0, 7, 0);
        Due.due("4 and 3", y.lost(0), 7);
    }

    private static void lawStops() {
        Due.sentence("Term 3: if THE LAW STOPS there (s is STEPS or more), to THE TOWN");
        for (int way = 0; way <= 2; way++) {
            FathersPay x = Towns.chain(11, way);
            for (int p = 0; p < 11; p++) {
                x.set(p, 5, 1);
            }
            x.debt(0, 100, 0);
            Due.due("nine at first", x.called(0, 9), 1);
            Due.due("not ten", x.called(0, 10), 0);
            for (int steps = 1; steps <= 9; steps++) {
                x.rule(0, steps);
                Due.due("the last, STEPS " + steps, x.called(0, steps), 1);
                Due.due("not the next, STEPS " + steps, x.called(0, steps + 1), 0);
                Due.due("LOST, STEPS " + steps, x.lost(0), 99 - steps);
            }
        }
        FathersPay y = Towns.chain(3, 0);
        y.set(2, 5, 9);
        y.debt(0, 9, 0);
        y.set(0, 4, 0);
        y.set(1, 4, 0);
        Due.due("past dead ones", y.called(0, 2), 9);
        y.rule(0, 1);
        Due.due("dead ones are steps, too", y.called(0, 2), 0);
    }

    /** 0 is FATHER and 1 MOTHER of 2 .. 5; each of these has 10. LAW 2 is 1; 4 owes. */
    private static FathersPay sisters(int sum) {
        FathersPay x = Towns.poor(9);
        for (int p = 2; p <= 5; p++) {
            x.parent(p, 0, 0);
            x.parent(p, 1, 1);
            x.set(p, 5, 10);
        }
        x.debt(4, sum, 0);
        x.rule(2, 1);
        return x;
    }

    private static void sistersOfBoth() {
        Due.sentence("Term 3: others who have the same FATHER and the same MOTHER (both not none)");
        FathersPay x = sisters(40);
        Due.due("three others pay", x.lost(0), 0);
        x.rule(2, 0);
        Due.due("LAW 2 of 0: none of them", x.lost(0), 30);
        x.rule(2, 1);
        x.parent(5, 0, 6);
        Due.due("another FATHER", x.called(0, 5), 0);
        x.parent(5, 0, -1);
        Due.due("no FATHER", x.called(0, 5), 0);
        x.parent(5, 0, 0);
        x.parent(5, 1, 6);
        Due.due("another MOTHER", x.called(0, 5), 0);
        x.parent(5, 1, -1);
        Due.due("no MOTHER", x.called(0, 5), 0);
        x.parent(5, 0, 1);
        x.parent(5, 1, 0);
        Due.due("FATHER as MOTHER", x.called(0, 5), 0);
        x.parent(4, 0, -1);
        x.parent(5, 0, -1);
        x.parent(5, 1, 1);
        Due.due("both without a FATHER", x.called(0, 5), 0);
        x.parent(4, 1, -1);
        x.parent(4, 0, 0);
        x.parent(5, 1, -1);
        x.parent(5, 0, 0);
        Due.due("both without a MOTHER", x.called(0, 5), 0);
        x.parent(4, 0, -1);
        x.parent(5, 0, -1);
        Due.due("both without any", x.called(0, 5), 0);
        sistersOfAnyNumber();
    }

    /** Who are FATHER, MOTHER, sister by number must not matter. */
    private static void sistersOfAnyNumber() {
        for (int father = 0; father < 4; father++) {
            for (int mother = 0; mother < 4; mother++) {
                for (int who = 0; who < 4; who++) {
                    if (father != mother && who != father && who != mother) {
                        int sister = 6 - father - mother - who;
                        FathersPay x = Towns.poor(4);
                        x.parent(who, 0, father);
                        x.parent(who, 1, mother);
                        x.parent(sister, 0, father);
                        x.parent(sister, 1, mother);
                        x.set(sister, 5, 5);
                        x.debt(who, 5, 0);
                        x.rule(2, 1);
                        Due.due("sister " + sister + " of " + who, x.called(0, sister), 5);
                    }
                }
            }
        }
    }

    private static void sistersAlive() {
        Due.sentence("Term 3: By SISTERS first of all to others ALIVE");
        FathersPay x = sisters(40);
        x.set(3, 4, 0);
        Due.due("a dead one", x.called(0, 3), 0);
        Due.due("LOST", x.lost(0), 10);
        x.set(4, 4, 0);
        Due.due("of a dead one who owes", x.called(0, 2), 10);
        Due.due("who pays nothing", x.called(0, 4), 0);
        x.set(0, 4, 0);
        x.set(1, 4, 0);
        Due.due("of dead FATHER and MOTHER", x.called(0, 5), 10);
        Due.due("LOST", x.lost(0), 20);
    }

    private static void sistersByNumbers() {
        Due.sentence("Term 3: SISTERS by numbers: each for all that is left; what they don't PAY goes to the next one");
        int[][] due = {{10, 0, 0, 0}, {11, 1, 0, 0}, {20, 10, 0, 0}, {21, 10, 1, 0}, {30, 10, 10, 0}, {31, 10, 10, 1}, {40, 10, 10, 10}};
        for (int[] d : due) {
            FathersPay x = sisters(d[0]);
            Due.due("2 by " + d[0], x.called(0, 2), d[1]);
            Due.due("3 by " + d[0], x.called(0, 3), d[2]);
            Due.due("5 by " + d[0], x.called(0, 5), d[3]);
            Due.due("who owes", x.called(0, 4), 10);
        }
    }

    private static void sistersAsStepZero() {
        Due.sentence("Term 3: SISTERS: each ANSWERS (as s 0)");
        int[][] due = {{200, 10}, {300, 10}, {400, 0}, {401, 10}, {500, 10}, {100, 0}, {101, 10}, {600, 10}};
        for (int[] d : due) {
            FathersPay x = sisters(20);
            Towns.become(x, 2, d[0]);
            Due.due("a sister of " + d[0], x.called(0, 2), d[1]);
        }
        FathersPay x = sisters(25);
        Towns.become(x, 2, 607);
        Towns.tell(x, Texts.ANSWERS, "s+1");
        Due.due("s is 0", x.called(0, 2), 1);
        Towns.tell(x, Texts.ANSWERS, "c-m");
        Due.due("c is all that is left", x.called(0, 2), 8);
        Due.sentence("Term 3: SISTERS: a SHUT one's rest goes to the next one");
        FathersPay y = sisters(40);
        Towns.become(y, 2, 200);
        y.set(2, 5, 4);
        Due.due("the next one", y.called(0, 3), 10);
        Due.due("LOST", y.lost(0), 6);
    }

    private static void sistersOfWhoOwesAlone() {
        Due.sentence("Term 3: SISTERS: only from who owes (s 0)");
        FathersPay x = sisters(1);
        x.parent(6, 0, 4);
        x.debt(6, 50, 0);
        Due.due("FATHER of who owes", x.called(1, 4), 10);
        Due.due("not his sister 2", x.called(1, 2), 0);
        Due.due("LOST", x.lost(1), 40);
        x.set(4, 4, 0);
        Due.due("nor when he is dead", x.called(1, 2), 0);
    }

    private static void sistersAheadOfUp() {
        Due.sentence("Term 3: SISTERS first of all, at last further UP");
        FathersPay x = sisters(47);
        x.set(0, 5, 100);
        x.set(1, 5, 100);
        Due.due("FATHER of the rest", x.called(0, 0), 4);
        Due.due("MOTHER of the rest", x.called(0, 1), 3);
        Due.due("LOST", x.lost(0), 0);
        x.rule(1, 1);
        Due.due("HALVES of the rest: FATHER", x.called(0, 0), 2);
        Due.due("HALVES of the rest: MOTHER", x.called(0, 1), 1);
        Due.due("HALVES of the rest: LOST", x.lost(0), 4);
        FathersPay y = sisters(40);
        Towns.give(y, 0, 100, 0);
        Due.due("nothing is left for the FATHER", y.called(0, 0), 0);
    }

    private static void neitherFatherNorMother() {
        Due.sentence("Term 3: no FATHER and no MOTHER: to THE TOWN");
        FathersPay x = Towns.poor(2);
        x.set(0, 5, 3);
        x.set(1, 5, 99);
        x.debt(0, 3, 0);
        x.debt(0, 4, 0);
        Due.due("nothing is left", x.lost(0), 0);
        Due.due("one is left", x.lost(1), 1);
        x.rule(1, 1);
        Due.due("HALVES: all of it", x.lost(1), 1);
        x.set(0, 4, 0);
        Due.due("all", x.lost(1), 4);
    }

    private static void oneAlone() {
        Due.sentence("Term 3: One alone: all to that one, as s and 1");
        for (int way = 0; way <= 1; way++) {
            for (int other = 0; other <= 2; other += 2) {
                FathersPay x = Towns.poor(3);
                x.parent(1, way, other);
                x.set(other, 5, 1000);
                Towns.become(x, other, 600);
                x.debt(1, 7, 0);
                Due.due("all", x.called(0, other), 7);
                Due.due("LOST", x.lost(0), 0);
                Towns.tell(x, Texts.ANSWERS, "s*5");
                Due.due("s is 1", x.called(0, other), 5);
            }
        }
    }

    private static void bothByHalves() {
        Due.sentence("Term 3: Both: the half that is greater by 1 for odd ones to the FATHER, first; the other to the MOTHER");
        for (int c : new int[] {1, 2, 3, 4, 99998, 99999}) {
            FathersPay x = Towns.family(3);
            x.set(1, 5, 99999);
            x.set(2, 5, 99999);
            x.debt(0, c, 0);
            Due.due("FATHER of " + c, x.called(0, 1), (c + 1) / 2);
            Due.due("MOTHER of " + c, x.called(0, 2), c / 2);
            x.parent(0, 0, -1);
            x.parent(0, 1, 1);
            x.parent(0, 0, 2);
            Due.due("changed about: FATHER of " + c, x.called(0, 2), (c + 1) / 2);
            Due.due("changed about: MOTHER of " + c, x.called(0, 1), c / 2);
        }
        FathersPay x = Towns.family(4);
        x.parent(1, 1, 3);
        x.parent(2, 0, 3);
        Towns.become(x, 3, 600);
        x.set(3, 5, 10);
        x.debt(0, 9, 0);
        Towns.tell(x, Texts.ANSWERS, "c=5&p=10|c=4&p=9");
        Due.due("the FATHER's way is ahead: one of 5, one of 4", x.called(0, 3), 2);
        FathersPay y = Towns.family(3);
        y.set(1, 5, 1);
        y.debt(0, 9, 0);
        Due.due("what the FATHER can't pay isn't the MOTHER's", y.called(0, 2), 0);
        Due.due("LOST", y.lost(0), 8);
    }

    private static void halvesByLaw() {
        Due.sentence("Term 3: By HALVES each step up calls but half (cut) of what goes UP; the other part goes to THE TOWN");
        for (int c : new int[] {1, 2, 3, 4, 5, 6, 7, 99999}) {
            FathersPay x = Towns.family(3);
            x.rule(1, 1);
            x.set(1, 5, 99999);
            x.set(2, 5, 99999);
            x.debt(0, c, 0);
            int half = c / 2;
            Due.due("FATHER of half " + c, x.called(0, 1), (half + 1) / 2);
            Due.due("MOTHER of half " + c, x.called(0, 2), half / 2);
            Due.due("LOST of " + c, x.lost(0), c - half);
            x.parent(0, 0, -1);
            Due.due("MOTHER alone of half " + c, x.called(0, 2), half);
            x.parent(0, 1, -1);
            x.parent(0, 0, 1);
            Due.due("FATHER alone of half " + c, x.called(0, 1), half);
            Due.due("LOST of " + c, x.lost(0), c - half);
        }
        FathersPay x = Towns.chain(10, 2);
        x.rule(1, 1);
        x.debt(0, 1000, 0);
        int[] called = {1000, 500, 250, 125, 62, 31, 15, 7, 3, 1};
        for (int s = 1; s < 10; s++) {
            x.set(s, 5, 99999);
            Due.due("step " + s, x.called(0, s), called[s]);
            Due.due("LOST at step " + s, x.lost(0), 1000 - called[s]);
            x.set(s, 5, 0);
        }
        x.set(0, 5, 1000);
        Due.due("none of what who owes pays", x.lost(0), 0);
    }

    private static void theLaw() {
        Due.sentence("Term 3: THE LAW: 0 STEPS (1 .. 9; 9 at first), 1 HALVES (0 at first), 2 SISTERS (0 at first)");
        FathersPay x = new FathersPay();
        Due.due("STEPS", x.rule(0, 1), 9);
        Due.due("HALVES", x.rule(1, 1), 0);
        Due.due("SISTERS", x.rule(2, 1), 0);
        Due.due("STEPS", x.rule(0, 9), 1);
        Due.due("HALVES", x.rule(1, 0), 1);
        Due.due("SISTERS", x.rule(2, 0), 1);
        Due.ends("STEPS", v -> new FathersPay().rule(0, v), 1, 9);
        Due.ends("HALVES", v -> new FathersPay().rule(1, v), 0, 1);
        Due.ends("SISTERS", v -> new FathersPay().rule(2, v), 0, 1);
    }

    private static void townIsLess() {
        Due.sentence("Term 3: THE TOWN's PURSE is less by what comes to it");
        FathersPay x = Towns.poor(1);
        x.set(0, 5, 5);
        x.debt(0, 5, 0);
        x.debt(0, 1, 0);
        x.debt(0, 99999, 0);
        x.fails(0);
        Due.due("nothing came", x.count(5), 0);
        x.fails(1);
        Due.due("one", x.count(5), -1);
        x.fails(2);
        Due.due("99999 more", x.count(5), -100000);
        x.debt(0, 3, 0);
        x.set(0, 5, 3);
        x.settle(3);
        Due.due("nothing by settle()", x.count(5), -100000);
    }

    private static void calledTwice() {
        Due.sentence("Term 3: One may be CALLED more than once (by FATHER's and MOTHER's ways); PURSES and HOUSES are less by then");
        FathersPay x = Towns.family(4);
        x.parent(1, 0, 3);
        x.parent(2, 1, 3);
        x.debt(0, 21, 0);
        int[][] has = {{0, 0}, {10, 0}, {11, 0}, {11, 1}, {5, 10}, {20, 0}, {21, 0}, {0, 22}};
        for (int[] h : has) {
            Towns.give(x, 3, h[0], h[1]);
            int all = Math.min(21, h[0] + h[1]);
            Due.due("11 and 10 from " + h[0] + " and " + h[1], x.called(0, 3), all);
            Due.due("LOST", x.lost(0), 21 - all);
        }
        Towns.become(x, 3, 100);
        Due.due("BOUNDED by 0", x.called(0, 3), 0);
        x.debt(0, 250, 0);
        Towns.become(x, 3, 101);
        Towns.give(x, 3, 500, 0);
        Due.due("bounded each time", x.called(1, 3), 200);
    }

    private static void defaultSettles() {
        Due.sentence("Term 3: A DEFAULT of a DEBT: a CALL of its SUM at who owes, s 0; it is settled");
        FathersPay x = Towns.poor(2);
        Towns.become(x, 0, 600);
        x.set(0, 5, 100);
        x.debt(0, 60, 9999);
        Towns.tell(x, Texts.ANSWERS, "c-s");
        Due.due("LOST", x.fails(0), 0);
        Due.due("60 of 100", x.personIs(0, 5), 40);
        Due.due("settled", x.debtIs(0, 3), 0);
        Due.due("once alone", x.fails(0), Due.STATE);
        x.debt(1, 7, 0);
        Due.due("settled where nobody pays, too", x.fails(1), 7);
        Due.due("so", x.debtIs(1, 3), 0);
    }
}
