/** Term 4, sentence by sentence: CALLED, LOST, BESPOKE, SAFE, DISOWN, ADOPT, LINE, HEIRS, RECORDS. */
public final class TermsWouldBeTest {
    public static void main(String[] args) {
        called();
        lost();
        bespoke();
        safeWithoutChances();
        safeByTenths();
        safeEachByItself();
        safeButWhoOwes();
        safeLowestTerms();
        safeAtMostNine();
        safeByHand();
        safeBehindWhatWouldBe();
        disownLeast();
        disownAllTies();
        disownDead();
        disownByHand();
        adoptLeast();
        adoptNobodyUnder();
        adoptDead();
        adoptByHand();
        line();
        heirs();
        lineAndHeirsOfAnyNumbers();
        record();
        Due.end();
    }

    private static void called() {
        Due.sentence("Term 4: CALLED of a DEBT from a PERSON: what they would PAY in all, were it in DEFAULT now");
        FathersPay x = Towns.family(5);
        x.parent(1, 0, 3);
        x.parent(2, 0, 3);
        Towns.give(x, 0, 1, 1);
        Towns.give(x, 3, 4, 5);
        Towns.give(x, 4, 99, 99);
        x.debt(0, 99999, 9999);
        int[] due = {2, 0, 0, 9, 0};
        for (int times = 0; times < 2; times++) {
            for (int p = 0; p < 5; p++) {
                Due.due("from " + p, x.called(0, p), due[p]);
            }
        }
        Due.due("nothing is in DEFAULT by it", x.debtIs(0, 3), 1);
    }

    private static void lost() {
        Due.sentence("Term 4: LOST: what would come to THE TOWN");
        FathersPay x = Towns.poor(1);
        x.debt(0, 99999, 9999);
        Due.due("all", x.lost(0), 99999);
        Towns.give(x, 0, 50000, 49998);
        Due.due("one", x.lost(0), 1);
        Towns.give(x, 0, 50000, 49999);
        Due.due("nothing", x.lost(0), 0);
        Towns.give(x, 0, 99999, 99999);
        Due.due("not below 0", x.lost(0), 0);
        Due.due("THE TOWN has nothing of it", x.count(5), 0);
    }

    private static void bespoke() {
        Due.sentence("Term 4: BESPOKE of a PERSON: were all DEBTS that are OWED in DEFAULT now, by numbers");
        FathersPay x = Towns.family(4);
        x.parent(3, 0, 1);
        Towns.become(x, 1, 600);
        Towns.give(x, 1, 10, 0);
        Towns.tell(x, Texts.ANSWERS, "(c=5&p=10)+(c=8&p=9)*4");
        Due.due("no DEBT", x.bespoke(1), 0);
        x.debt(0, 9, 9999);
        x.debt(3, 8, 0);
        // 5 of 9 come to the FATHER: 1 by PURSE 10; then 8: 4 by PURSE 9
        Due.due("both, by numbers", x.bespoke(1), 5);
        Due.due("one who isn't asked", x.bespoke(0), 0);
        x.fails(0);
        Due.due("OWED ones alone", x.bespoke(1), 4);
        x.fails(1);
        Due.due("none OWED", x.bespoke(1), 0);
        FathersPay y = new FathersPay();
        y.person(0, 99999, 99999);
        for (int d = 0; d < 10; d++) {
            y.debt(0, 20000, 0);
        }
        Due.due("all that they have", y.bespoke(0), 199998);
    }

    private static void safe(FathersPay x, int debt, long above, long below) {
        Due.due("above the line", x.safe(debt, 0), above);
        Due.due("below the line", x.safe(debt, 1), below);
    }

    private static void safeWithoutChances() {
        Due.sentence("Term 4: SAFE: LOST as it is on average (nobody being FRAIL)");
        FathersPay x = Towns.chain(2, 0);
        x.debt(0, 99999, 0);
        safe(x, 0, 99999, 1);
        x.set(1, 5, 99998);
        safe(x, 0, 1, 1);
        x.set(1, 5, 99999);
        safe(x, 0, 0, 1);
    }

    private static void safeByTenths() {
        Due.sentence("Term 4: each PERSON ALIVE isn't by FRAIL tenths");
        long[][] due = {{0, 1}, {1, 10}, {1, 5}, {3, 10}, {2, 5}, {1, 2}, {3, 5}, {7, 10}, {4, 5}, {9, 10}};
        for (int above = 0; above <= 1; above++) {
            for (int tenths = 0; tenths <= 9; tenths++) {
                FathersPay x = Towns.poor(2);
                x.parent(1 - above, tenths % 2, above);
                x.set(above, 5, 10);
                x.set(above, 7, tenths);
                x.debt(1 - above, 1, 0);
                x.debt(1 - above, 10, 0);
                safe(x, 0, due[tenths][0], due[tenths][1]);
                safe(x, 1, tenths, 1);
                x.set(above, 4, 0);
                safe(x, 0, 1, 1);
            }
        }
    }

    private static void safeEachByItself() {
        Due.sentence("Term 4: each by itself");
        FathersPay x = Towns.chain(3, 0);
        x.set(1, 5, 1);
        x.set(2, 5, 1);
        x.set(1, 7, 3);
        x.set(2, 7, 7);
        x.debt(0, 1, 0);
        x.debt(0, 2, 0);
        safe(x, 0, 21, 100);
        // 3/10 + 7/10
        safe(x, 1, 1, 1);
        Towns.become(x, 1, 200);
        x.set(1, 5, 0);
        // a SHUT one must be dead for anybody above to be asked: 1 - 3/10 * 3/10
        safe(x, 0, 91, 100);
    }

    private static void safeButWhoOwes() {
        Due.sentence("Term 4: each PERSON ALIVE, but who owes");
        for (int who = 0; who <= 1; who++) {
            FathersPay x = Towns.poor(2);
            x.parent(who, 0, 1 - who);
            x.set(who, 5, 3);
            x.set(who, 7, 9);
            x.debt(who, 5, 0);
            safe(x, 0, 2, 1);
            x.set(1 - who, 7, 1);
            x.set(1 - who, 5, 9);
            safe(x, 0, 1, 5);
        }
    }

    private static void safeLowestTerms() {
        Due.sentence("Term 4: as a fraction of coins in lowest terms");
        FathersPay x = Towns.chain(10, 2);
        for (int p = 1; p < 10; p++) {
            x.set(p, 5, 99999);
            x.set(p, 7, 9);
        }
        x.debt(0, 99999, 0);
        x.debt(0, 1, 0);
        safe(x, 0, 99999L * 387420489, 1000000000L);
        safe(x, 1, 387420489, 1000000000L);
        for (int p = 1; p < 10; p++) {
            x.set(p, 7, 5);
        }
        safe(x, 0, 99999, 512);
        safe(x, 1, 1, 512);
        for (int p = 1; p < 10; p++) {
            x.set(p, 7, 2);
        }
        safe(x, 1, 1, 1953125);
        for (int p = 1; p < 10; p++) {
            x.set(p, 7, 1);
        }
        safe(x, 1, 1, 1000000000L);
        x.set(0, 5, 1);
        safe(x, 1, 0, 1);
    }

    private static void safeAtMostNine() {
        Due.sentence("Term 4: no more than 9 of them being FRAIL; STATE otherwise");
        for (int who = 0; who < 12; who += 11) {
            FathersPay x = Towns.poor(12);
            x.debt(who, 7, 0);
            x.set(who, 7, 9);
            for (int p = 1; p <= 9; p++) {
                x.set(p, 7, 1);
            }
            safe(x, 0, 7, 1);
            x.set(11 - who, 7, 1);
            Due.due("ten", x.safe(0, 0), Due.STATE);
            Due.due("ten", x.safe(0, 1), Due.STATE);
            x.set(11 - who, 4, 0);
            safe(x, 0, 7, 1);
            x.set(10, 7, 1);
            Due.due("ten ALIVE", x.safe(0, 0), Due.STATE);
            x.set(5, 7, 0);
            safe(x, 0, 7, 1);
        }
        Due.sentence("Term 4: who isn't FRAIL doesn't count, where so many stand above");
        FathersPay x = Towns.family(12);
        int[][] above = {{1, 3, 4}, {2, 5, 6}, {3, 7, 8}, {4, 9, 10}, {5, 11, -1}};
        for (int[] a : above) {
            x.parent(a[0], 0, a[1]);
            x.parent(a[0], 1, a[2]);
        }
        for (int p = 3; p < 12; p++) {
            x.set(p, 7, 5);
        }
        // 8 owed: 4 come to 2, 2 of them to 5, and all of these to 11
        x.set(11, 5, 2);
        x.debt(0, 8, 0);
        safe(x, 0, 7, 1);
    }

    /** A family of six, those below 5 FRAIL by what is told; each of them with a purse. */
    private static FathersPay six(int[] kinds, int[] purses) {
        FathersPay x = Towns.family(6);
        x.parent(1, 0, 3);
        x.parent(1, 1, 4);
        x.parent(2, 0, 4);
        x.parent(3, 1, 5);
        x.parent(5, 0, -1);
        for (int p = 0; p < 6; p++) {
            Towns.become(x, p, kinds[p]);
            x.set(p, 5, purses[p]);
        }
        return x;
    }

    private static final int[][] KINDS = {{0, 0, 0, 0, 0, 0}, {0, 200, 300, 0, 103, 0}, {520, 300, 401, 200, 0, 505},
        {100, 503, 200, 401, 300, 0}};
    private static final int[][] PURSES = {{5, 10, 20, 30, 40, 50}, {0, 99, 0, 99, 0, 99}, {1, 0, 300, 7, 60, 1000}};

    private static void safeByHand() {
        Due.sentence("Term 4: SAFE: LOST as it is on average, each set of the dead tried by set() and lost()");
        int[] tenths = {4, 3, 5, 0, 9, 1};
        for (int[] kinds : KINDS) {
            for (int[] purses : PURSES) {
                FathersPay x = six(kinds, purses);
                for (int p = 0; p < 6; p++) {
                    x.set(p, 7, tenths[p]);
                }
                x.debt(0, 501, 0);
                long above = x.safe(0, 0);
                long below = x.safe(0, 1);
                long sum = 0;
                int[] frail = {1, 2, 4, 5};
                for (int dead = 0; dead < 16; dead++) {
                    long chance = 1;
                    for (int i = 0; i < 4; i++) {
                        boolean isDead = (dead >> i & 1) == 1;
                        x.set(frail[i], 4, isDead ? 0 : 1);
                        chance *= isDead ? tenths[frail[i]] : 10 - tenths[frail[i]];
                    }
                    sum += chance * x.lost(0);
                }
                Due.due("SAFE, both sides times the line's other one", above * 10000, sum * below);
                Due.holds("lowest terms: " + above + " / " + below, below == 1 || above % 2 != 0 && above % 5 != 0
                    || below % 2 != 0 && above % 5 != 0 || below % 5 != 0 && above % 2 != 0);
            }
        }
    }

    private static void safeBehindWhatWouldBe() {
        Due.sentence("Term 4: SAFE doesn't depend on what was asked ahead of it");
        FathersPay x = Towns.family(4);
        x.parent(3, 0, 1);
        x.parent(3, 1, 2);
        x.set(3, 5, 10);
        x.set(3, 7, 4);
        x.debt(0, 10, 0);
        x.rule(2, 1);
        Due.due("3 isn't called when cut off", x.disown(1), 0);
        x.lost(0);
        x.parent(3, 1, -1);
        safe(x, 0, 10, 1);
        x.disown(1);
        x.parent(3, 1, 2);
        safe(x, 0, 4, 1);
    }

    private static void disownLeast() {
        Due.sentence("Term 4: DISOWN: the child by which BESPOKE of that PERSON is least; of several the least");
        FathersPay x = Towns.poor(4);
        x.set(3, 5, 500);
        for (int p = 0; p < 3; p++) {
            x.parent(p, p % 2, 3);
        }
        Due.due("no DEBT: the least", x.disown(3), 0);
        x.debt(0, 10, 0);
        x.debt(1, 10, 0);
        x.debt(2, 10, 0);
        Due.due("all alike: the least", x.disown(3), 0);
        x.debt(1, 1, 0);
        Due.due("1 is the dearest by 1", x.disown(3), 1);
        x.debt(2, 2, 0);
        Due.due("2 is the dearest by 1", x.disown(3), 2);
        x.debt(0, 3, 0);
        Due.due("0 is the dearest by 1", x.disown(3), 0);
        x.set(3, 5, 0);
        Due.due("who has nothing: the least", x.disown(3), 0);
        Due.due("nothing is cut by it", x.personIs(0, 2), 3);
    }

    private static void disownAllTies() {
        Due.sentence("Term 4: DISOWN: a PERSON's child (as FATHER or MOTHER), all ties of it to that one being cut");
        FathersPay x = Towns.poor(5);
        x.parent(2, 0, 0);
        x.parent(2, 1, 1);
        x.parent(3, 0, 1);
        x.parent(3, 1, 0);
        x.set(0, 5, 1000);
        x.set(1, 5, 1000);
        x.debt(2, 41, 0);
        x.debt(3, 40, 0);
        // cut from 0, a child's whole sum goes to 1, and the other way about
        Due.due("21 are CALLED from the FATHER of 2, 20 from the MOTHER of 3", x.disown(0), 2);
        Due.due("20 from the MOTHER of 2, 20 from the FATHER of 3", x.disown(1), 2);
        x.debt(3, 2, 0);
        Due.due("20 from the MOTHER of 2, 21 from the FATHER of 3", x.disown(1), 3);
        Due.sentence("Term 4: DISOWN: ties to that one alone are cut");
        for (int way = 0; way <= 1; way++) {
            FathersPay y = Towns.poor(3);
            y.parent(0, way, 2);
            y.parent(0, 1 - way, 1);
            y.parent(1, way, 2);
            y.set(2, 5, 1000);
            y.debt(0, 100, 0);
            // without 0 all comes by 1; without 1 the half of 0 alone
            Due.due("0 has another way to that one", y.disown(2), 1);
            y.debt(0, 7, 0);
            Due.due("so", y.disown(2), 1);
        }
    }

    private static void disownDead() {
        Due.sentence("Term 4: DISOWN: the child, ALIVE or not");
        FathersPay x = Towns.poor(3);
        x.parent(0, 0, 2);
        x.parent(1, 1, 2);
        x.set(2, 5, 100);
        x.debt(0, 10, 0);
        x.debt(1, 11, 0);
        x.set(1, 4, 0);
        Due.due("a dead one whose DEBT comes up", x.disown(2), 1);
        x.set(0, 4, 0);
        Due.due("all are dead", x.disown(2), 1);
    }

    private static void disownByHand() {
        Due.sentence("Term 4: DISOWN: each child cut by parent(), then bespoke()");
        for (int[] kinds : KINDS) {
            for (int[] purses : PURSES) {
                for (int person = 1; person < 6; person++) {
                    Due.due("DISOWN of " + person, owing(kinds, purses).disown(person), disownedByHand(kinds, purses, person));
                }
            }
        }
    }

    private static FathersPay owing(int[] kinds, int[] purses) {
        FathersPay x = six(kinds, purses);
        x.debt(0, 77, 0);
        x.debt(1, 200, 0);
        x.debt(2, 31, 0);
        x.debt(3, 400, 0);
        return x;
    }

    private static int disownedByHand(int[] kinds, int[] purses, int person) {
        int best = Due.NONE;
        int least = Integer.MAX_VALUE;
        for (int child = 0; child < 6; child++) {
            FathersPay x = owing(kinds, purses);
            int way = x.personIs(child, 2) == person ? 0 : x.personIs(child, 3) == person ? 1 : -1;
            if (way >= 0) {
                x.parent(child, way, -1);
                if (x.bespoke(person) < least) {
                    least = x.bespoke(person);
                    best = child;
                }
            }
        }
        return best;
    }

    private static void adoptLeast() {
        Due.sentence("Term 4: ADOPT: the PERSON who, if FATHER of who owes, makes LOST least; of several the least");
        FathersPay x = Towns.poor(4);
        x.debt(3, 100, 0);
        Due.due("nobody has anything: the least", x.adopt(0), 0);
        x.set(2, 5, 10);
        Due.due("2", x.adopt(0), 2);
        x.set(1, 5, 10);
        Due.due("1 as well: the least", x.adopt(0), 1);
        x.set(2, 6, 1);
        Due.due("2 by 1", x.adopt(0), 2);
        x.set(0, 5, 12);
        Due.due("0 by 1", x.adopt(0), 0);
        x.set(1, 5, 13);
        Due.due("1 by 1", x.adopt(0), 1);
        x.set(0, 5, 100);
        x.set(1, 5, 101);
        Due.due("both make it 0: the least", x.adopt(0), 0);
        x.parent(3, 1, 0);
        Due.due("the MOTHER's half has to be paid, too", x.adopt(0), 1);
        Due.due("nobody is FATHER by it", x.personIs(3, 2), -1);
    }

    private static void adoptNobodyUnder() {
        Due.sentence("Term 4: ADOPT: nobody who is under who owes, nor oneself, nor the MOTHER");
        for (int who = 0; who <= 4; who += 4) {
            int other = 4 - who;
            FathersPay x = Towns.poor(5);
            x.debt(who, 100, 0);
            Towns.give(x, who, 50, 0);
            Due.due("not oneself", x.adopt(0), who == 0 ? 1 : 0);
            x.set(other, 5, 40);
            Due.due("the other one", x.adopt(0), other);
            x.parent(other, 0, 1);
            x.parent(1, 1, 2);
            Due.due("still", x.adopt(0), other);
            x.parent(2, 0, who);
            Due.due("not who is under in three steps", x.adopt(0), 3);
            x.parent(2, 0, -1);
            x.parent(1, 1, who);
            Due.due("not who is under in two steps", x.adopt(0), 2);
            x.parent(1, 1, -1);
            x.parent(other, 1, who);
            Due.due("not a child", x.adopt(0), 1);
            x.parent(other, 1, -1);
            x.parent(who, 1, other);
            Due.due("not the MOTHER", x.adopt(0), 1);
            x.parent(other, 0, 3);
            x.set(3, 5, 40);
            Due.due("but who is above her", x.adopt(0), 3);
        }
    }

    private static void adoptDead() {
        Due.sentence("Term 4: ADOPT: the PERSON, ALIVE or not");
        FathersPay x = Towns.poor(4);
        x.debt(0, 10, 0);
        x.parent(2, 0, 3);
        x.set(3, 5, 7);
        x.set(2, 4, 0);
        Due.due("a dead one as dear as who is above: the least", x.adopt(0), 2);
        x.set(1, 4, 0);
        x.set(3, 4, 0);
        Due.due("all others are dead: the least", x.adopt(0), 1);
    }

    private static void adoptByHand() {
        Due.sentence("Term 4: ADOPT: each one made FATHER by parent(), then lost()");
        for (int[] kinds : KINDS) {
            for (int[] purses : PURSES) {
                for (int debt = 0; debt < 4; debt++) {
                    FathersPay asked = owing(kinds, purses);
                    asked.parent(debt, 0, -1);
                    Due.due("ADOPT for " + debt, asked.adopt(debt), adoptedByHand(kinds, purses, debt));
                }
            }
        }
    }

    private static int adoptedByHand(int[] kinds, int[] purses, int debt) {
        int best = Due.NONE;
        int least = Integer.MAX_VALUE;
        for (int other = 0; other < 6; other++) {
            FathersPay x = owing(kinds, purses);
            x.parent(debt, 0, -1);
            if (x.parent(debt, 0, other) == -1 && x.lost(debt) < least) {
                least = x.lost(debt);
                best = other;
            }
        }
        return best;
    }

    private static void line() {
        Due.sentence("Term 4: A LINE of a PERSON: those above, as bits (both ways, all steps)");
        Due.due("nobody", Towns.poor(12).personIs(0, 8), 0);
        for (int way = 0; way <= 2; way++) {
            FathersPay x = Towns.chain(12, way);
            for (int p = 0; p < 12; p++) {
                Due.due("LINE of " + p, x.personIs(p, 8), 4095 & ~((2 << p) - 1));
            }
        }
        FathersPay y = Towns.family(6);
        y.parent(1, 1, 3);
        y.parent(2, 0, 4);
        y.parent(4, 1, 3);
        y.rule(0, 1);
        Due.due("both ways, whatever THE LAW says", y.personIs(0, 8), 2 | 4 | 8 | 16);
        y.set(1, 4, 0);
        y.set(2, 4, 0);
        Due.due("dead ones and who is above them, too", y.personIs(0, 8), 2 | 4 | 8 | 16);
    }

    private static void lineAndHeirsOfAnyNumbers() {
        Due.sentence("Term 4: LINE and HEIRS, whatever the numbers of those between");
        for (int order = 0; order < 256; order++) {
            int[] up = {order & 3, order >> 2 & 3, order >> 4 & 3, order >> 6 & 3};
            int all = 1 << up[0] | 1 << up[1] | 1 << up[2] | 1 << up[3];
            if (all == 15) {
                FathersPay x = Towns.poor(4);
                for (int i = 0; i < 3; i++) {
                    x.parent(up[i], i % 2, up[i + 1]);
                }
                int under = 0;
                for (int i = 0; i < 4; i++) {
                    Due.due("HEIRS of " + up[i], x.personIs(up[i], 9), under);
                    under |= 1 << up[i];
                    Due.due("LINE of " + up[i], x.personIs(up[i], 8), all & ~under);
                }
            }
        }
    }

    private static void heirs() {
        Due.sentence("Term 4: HEIRS: those under, as bits");
        Due.due("nobody", Towns.poor(12).personIs(11, 9), 0);
        for (int way = 0; way <= 2; way++) {
            FathersPay x = Towns.chain(12, way);
            for (int p = 0; p < 12; p++) {
                Due.due("HEIRS of " + p, x.personIs(p, 9), (1 << p) - 1);
            }
        }
        FathersPay y = Towns.family(6);
        y.parent(1, 1, 3);
        y.parent(2, 0, 4);
        y.parent(4, 1, 3);
        Due.due("both ways", y.personIs(3, 9), 1 | 2 | 4 | 16);
        y.set(4, 4, 0);
        Due.due("dead ones, too", y.personIs(3, 9), 1 | 2 | 4 | 16);
    }

    private static void record() {
        Due.sentence("Term 4: A RECORD: PURSES of PERSONS 0, 1, .. behind a DEBT's DEFAULT; JUDGED: the first that isn't so");
        FathersPay x = Towns.chain(3, 0);
        for (int p = 0; p < 3; p++) {
            x.set(p, 5, 10);
        }
        x.debt(0, 15, 0);
        int[] then = {0, 5, 10};
        for (int bits = 8; bits <= 32; bits *= 2) {
            for (int p = 0; p < 3; p++) {
                for (int off = -1; off <= 1; off += 2) {
                    Towns.lay(x, 0, bits, then);
                    Due.due("all are so", x.judge(0, 0), 3);
                    x.put(0, p, then[p] + off);
                    Due.due("that of " + p + " isn't", x.judge(0, 0), p);
                }
            }
        }
        x.put(0, 0, 7);
        Due.due("the first of several", x.judge(0, 0), 0);
    }
}
