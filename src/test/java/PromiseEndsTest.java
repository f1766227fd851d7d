/** Promises 1 to 24: the last number that each call takes at each end and the first that is BEYOND; empty and full. */
public final class PromiseEndsTest {
    public static void main(String[] args) {
        newObject();
        callsOfAnObject();
        persons();
        personsFull();
        parents();
        rules();
        debtsMade();
        debtsFull();
        debtsAsked();
        settled();
        daysOnEnds();
        yearsOnEnds();
        seedAnyNumber();
        fedBytes();
        textsOfUses();
        whatWouldBe();
        needed();
        Due.end();
    }

    private static void newObject() {
        Due.sentence("Promise 1: All as at first; no PERSONS, DEBTS");
        FathersPay x = new FathersPay();
        for (int what = 0; what <= 8; what++) {
            Due.due("count(" + what + ")", x.count(what), 0);
        }
        Due.due("z", x.count(9), 1);
        Due.due("no PERSON", x.personIs(0, 0), Due.BEYOND);
        Due.due("no DEBT", x.debtIs(0, 0), Due.BEYOND);
        Due.due("nothing is needed", x.needs(), 0);
        FathersPay other = new FathersPay();
        other.person(0, 1, 1);
        other.seed(9);
        Due.due("objects are apart", x.count(0), 0);
        Due.due("in all", x.count(9), 1);
    }

    private static void callsOfAnObject() {
        Due.sentence("What it is: An object is used for at most 512 calls after it has been made");
        FathersPay x = new FathersPay();
        for (int i = 1; i <= 511; i++) {
            Due.due("call " + i, x.told(0), Due.BEYOND);
        }
        Due.due("the 512th call", x.told(1), 511);
    }

    private static void persons() {
        Due.sentence("Promise 2: km, PURSE, HOUSE. BEYOND");
        Due.ends("person: km", v -> new FathersPay().person(v, 0, 0), 0, 699);
        Due.ends("person: purse", v -> new FathersPay().person(0, v, 0), 0, 99999);
        Due.ends("person: house", v -> new FathersPay().person(0, 0, v), 0, 99999);
        Due.sentence("Promise 2: km: 100 times the KIND, and m");
        for (int km : new int[] {0, 99, 100, 199, 200, 399, 400, 600, 699}) {
            FathersPay x = new FathersPay();
            x.person(km, 0, 0);
            Due.due("KIND of " + km, x.personIs(0, 0), km / 100);
            Due.due("m of " + km, x.personIs(0, 1), km % 100);
        }
        Due.sentence("Promise 3: what and PERSON. BEYOND");
        for (int p = 0; p < 5; p++) {
            int person = p;
            Due.ends("personIs: what", v -> Towns.settled().personIs(person, v), 0, 9);
        }
        Due.ends("personIs: person", v -> Towns.settled().personIs(v, 0), 0, 4);
        Due.ends("personIs of twelve: person", v -> Towns.poor(12).personIs(v, 8), 0, 11);
        Due.due("personIs of none", new FathersPay().personIs(0, 8), Due.BEYOND);
        Due.sentence("Promise 4: PERSON and KIND. BEYOND");
        Due.ends("as: person", v -> Towns.settled().as(v, 0), 0, 4);
        Due.ends("as: kind", v -> {
            FathersPay x = Towns.poor(1);
            x.set(0, 0, v);
            return x.as(0, v);
        }, 0, 6);
        Due.sentence("Promise 5: KIND (0), m (1), ALIVE (4), PURSE (5), HOUSE (6), FRAIL (7) becomes v. BEYOND");
        Due.ends("set: person", v -> Towns.settled().set(v, 5, 0), 0, 4);
        Due.ends("set: what from KIND to m", v -> Towns.poor(1).set(0, v, 0), 0, 1);
        for (int what : new int[] {2, 3}) {
            for (int v = -2; v <= 1; v++) {
                Due.due("FATHER and MOTHER aren't set: " + what + " to " + v, Towns.poor(3).set(2, what, v), Due.BEYOND);
            }
        }
        Due.ends("set: what from ALIVE to FRAIL", v -> Towns.poor(1).set(0, v, 0), 4, 7);
        int[] what = {0, 1, 4, 5, 6, 7};
        int[] most = {6, 99, 1, 99999, 99999, 9};
        for (int i = 0; i < what.length; i++) {
            int of = what[i];
            Due.ends("set: v of " + of, v -> Towns.poor(1).set(0, of, v), 0, most[i]);
        }
        allElseStays();
    }

    private static void allElseStays() {
        Due.sentence("Promise 5: what it was (all else stays)");
        int[] what = {0, 1, 4, 5, 6, 7};
        int[] to = {2, 55, 0, 7, 8, 6};
        for (int i = 0; i < what.length; i++) {
            for (int p = 0; p < 5; p++) {
                FathersPay x = Towns.settled();
                FathersPay other = Towns.settled();
                Due.due("what it was", x.set(p, what[i], to[i]), other.personIs(p, what[i]));
                for (int q = 0; q < 5; q++) {
                    for (int of = 0; of <= 9; of++) {
                        boolean isSet = q == p && of == what[i];
                        Due.due("personIs(" + q + ", " + of + ")", x.personIs(q, of), isSet ? to[i] : other.personIs(q, of));
                    }
                }
                for (int of = 0; of <= 9; of++) {
                    int fewer = of == 1 && what[i] == 4 ? 1 : 0;
                    Due.due("count(" + of + ")", x.count(of), other.count(of) - fewer);
                }
            }
        }
    }

    private static void personsFull() {
        Due.sentence("Promise 2: FULL");
        Due.due("the twelfth", Towns.poor(11).person(699, 99999, 99999), 11);
        FathersPay x = Towns.poor(12);
        Due.due("the thirteenth", x.person(0, 0, 0), Due.FULL);
        x.set(0, 4, 0);
        Due.due("dead ones are PERSONS, too", x.person(0, 0, 0), Due.FULL);
        Due.due("twelve", x.count(0), 12);
    }

    private static void parents() {
        Due.sentence("Promise 6: PERSON, what, another one (-1: none). BEYOND");
        Due.ends("parent: person", v -> Towns.poor(5).parent(v, 0, -1), 0, 4);
        Due.ends("parent: what", v -> Towns.poor(5).parent(1, v, 2), 0, 1);
        Due.ends("parent: other", v -> v == 0 ? 0 : Towns.poor(5).parent(0, 0, v), -1, 4);
        Due.ends("parent: other", v -> v == 4 ? 0 : Towns.poor(5).parent(4, 1, v), -1, 4);
        Due.due("nobody is there", new FathersPay().parent(0, 0, -1), Due.BEYOND);
        Due.sentence("Promise 6: who it was");
        FathersPay x = Towns.poor(12);
        int was = -1;
        for (int other = 0; other < 11; other++) {
            Due.due("FATHER was", x.parent(11, 0, other), was);
            was = other;
        }
        Due.due("the same again", x.parent(11, 0, 10), 10);
        Due.due("none then", x.parent(11, 0, -1), 10);
        Due.due("none was", x.parent(11, 0, -1), -1);
        Due.sentence("Promise 6: STATE: one would be above oneself, or both at once");
        Due.due("oneself as FATHER", x.parent(0, 0, 0), Due.STATE);
        Due.due("oneself as MOTHER", x.parent(11, 1, 11), Due.STATE);
        x.parent(11, 0, 0);
        Due.due("one's child as FATHER", x.parent(0, 0, 11), Due.STATE);
        Due.due("one's child as MOTHER", x.parent(0, 1, 11), Due.STATE);
        Due.due("one's FATHER as MOTHER", x.parent(11, 1, 0), Due.STATE);
        x.parent(11, 0, -1);
        x.parent(11, 1, 0);
        Due.due("one's MOTHER as FATHER", x.parent(11, 0, 0), Due.STATE);
        Due.due("the MOTHER again", x.parent(11, 1, 0), 0);
    }

    private static void rules() {
        Due.sentence("Promise 7: THE LAW (what 0 .. 2) becomes v. BEYOND");
        Due.ends("rule: what", v -> new FathersPay().rule(v, 1), 0, 2);
        Due.ends("rule: STEPS", v -> new FathersPay().rule(0, v), 1, 9);
        Due.ends("rule: HALVES", v -> new FathersPay().rule(1, v), 0, 1);
        Due.ends("rule: SISTERS", v -> new FathersPay().rule(2, v), 0, 1);
        Due.sentence("Promise 7: what it was");
        FathersPay x = new FathersPay();
        int was = 9;
        for (int steps = 1; steps <= 9; steps++) {
            Due.due("STEPS were", x.rule(0, steps), was);
            was = steps;
        }
        Due.due("HALVES were", x.rule(1, 1), 0);
        Due.due("SISTERS were, each for itself", x.rule(2, 0), 0);
        Due.due("HALVES were", x.rule(1, 1), 1);
    }

    private static void debtsMade() {
        Due.sentence("Promise 8: PERSON, SUM, DUE. BEYOND");
        Due.ends("debt: person", v -> Towns.settled().debt(v, 1, 0), 0, 4);
        Due.ends("debt: sum", v -> Towns.settled().debt(0, v, 0), 1, 99999);
        Due.ends("debt: due", v -> Towns.settled().debt(0, 1, v), 0, 9999);
        Due.due("nobody is there", new FathersPay().debt(0, 1, 0), Due.BEYOND);
        Due.sentence("Promise 9: DEBT, what. BEYOND");
        Due.ends("debtIs: debt", v -> Towns.settled().debtIs(v, 0), 0, 3);
        Due.ends("debtIs: what", v -> Towns.settled().debtIs(2, v), 0, 3);
        Due.ends("debtIs of ten: debt", v -> Towns.owingTen().debtIs(v, 3), 0, 9);
        Due.due("no DEBT is there", Towns.poor(1).debtIs(0, 0), Due.BEYOND);
    }

    private static void debtsFull() {
        Due.sentence("Promise 8: FULL");
        FathersPay x = Towns.poor(1);
        for (int d = 0; d < 9; d++) {
            x.debt(0, 1, 0);
        }
        Due.due("the tenth", x.debt(0, 1, 0), 9);
        Due.due("the eleventh", x.debt(0, 1, 0), Due.FULL);
        x.days(1);
        Due.due("all settled, but DEBTS", x.debt(0, 1, 0), Due.FULL);
    }

    private static void debtsAsked() {
        Due.sentence("Promise 10: BEYOND. STATE: it is settled");
        Due.ends("fails: debt", v -> Towns.owingTen().fails(v), 0, 9);
        Due.due("no DEBT is there", Towns.poor(1).fails(0), Due.BEYOND);
        FathersPay x = Towns.owingTen();
        Due.due("LOST", x.fails(9), 1);
        Due.due("settled", x.fails(9), Due.STATE);
        x.set(0, 5, 1);
        x.settle(8);
        Due.due("settled by settle()", x.fails(8), Due.STATE);
        Due.sentence("Promise 11: BEYOND");
        Due.ends("settle: debt", v -> {
            FathersPay y = Towns.owingTen();
            y.set(0, 5, 1);
            return y.settle(v);
        }, 0, 9);
        Due.due("no DEBT is there", Towns.poor(1).settle(0), Due.BEYOND);
    }

    private static void settled() {
        Due.sentence("Promise 11: PURSE, then HOUSE; all of the SUM: PURSE and HOUSE together then");
        int[][] due = {{10, 5, 1, 9, 5}, {10, 5, 9, 1, 5}, {10, 5, 10, 0, 5}, {10, 5, 11, 0, 4}, {10, 5, 14, 0, 1}, {10, 5, 15, 0, 0},
            {0, 5, 5, 0, 0}, {5, 0, 5, 0, 0}, {99999, 99999, 99999, 0, 99999}, {1, 99999, 99999, 0, 1}};
        for (int[] d : due) {
            FathersPay x = new FathersPay();
            x.person(0, d[0], d[1]);
            x.debt(0, d[2], 0);
            Due.due("together", x.settle(0), d[3] + d[4]);
            Due.due("PURSE", x.personIs(0, 5), d[3]);
            Due.due("HOUSE", x.personIs(0, 6), d[4]);
            Due.due("settled", x.debtIs(0, 3), 0);
            Due.due("nothing to THE TOWN", x.count(5), 0);
        }
        Due.sentence("Promise 11: STATE: it is settled, they aren't ALIVE, or have not so much");
        FathersPay x = new FathersPay();
        x.person(100, 10, 4);
        x.debt(0, 15, 0);
        Due.due("one less than the SUM", x.settle(0), Due.STATE);
        x.set(0, 6, 5);
        x.set(0, 4, 0);
        Due.due("not ALIVE", x.settle(0), Due.STATE);
        x.set(0, 4, 1);
        Due.due("just the SUM, by a BOUNDED one who would ANSWER for none", x.settle(0), 0);
        x.set(0, 5, 99);
        Due.due("settled", x.settle(0), Due.STATE);
        x.debt(0, 15, 0);
        x.fails(1);
        Due.due("settled by its DEFAULT", x.settle(1), Due.STATE);
    }

    private static void daysOnEnds() {
        Due.sentence("Promise 12: n (1 .. 60) DAYS. BEYOND");
        Due.ends("days: n", v -> new FathersPay().days(v), 1, 60);
        Due.due("60", new FathersPay().days(60), 60);
        Due.due("1", new FathersPay().days(1), 1);
        Due.sentence("Promise 12: STATE: it would be above 9999");
        FathersPay x = Towns.poor(1);
        for (int i = 0; i < 166; i++) {
            x.days(60);
        }
        x.debt(0, 5, 9960);
        Due.due("9960 and 40", x.days(40), Due.STATE);
        Due.due("9960 and 60", x.days(60), Due.STATE);
        Due.due("no DAY of them came", x.count(4), 9960);
        Due.due("nothing is in DEFAULT", x.debtIs(0, 3), 1);
        Due.due("9960 and 39", x.days(39), 9999);
        Due.due("it is in DEFAULT", x.debtIs(0, 3), 0);
        Due.due("9999 and 1", x.days(1), Due.STATE);
    }

    private static void yearsOnEnds() {
        Due.sentence("Promise 13: n (1 .. 20) YEARS: how many died. BEYOND");
        Due.ends("years: n", v -> Towns.poor(1).years(v), 1, 20);
        Due.due("nobody is there", new FathersPay().years(20), 0);
        FathersPay x = Towns.poor(12);
        x.set(0, 6, 20);
        x.years(20);
        Due.due("20 of them", x.personIs(0, 5), 20);
        x.years(1);
        Due.due("1 more", x.personIs(0, 5), 21);
        for (int p = 0; p < 12; p++) {
            x.set(p, 7, 9);
        }
        int died = x.years(20) + x.years(20);
        Due.due("all twelve died", died, 12);
        Due.due("nobody is left to die", x.years(20), 0);
        x.set(3, 4, 1);
        x.set(8, 4, 1);
        Due.due("one counts each time", x.years(20) + x.years(20), 2);
    }

    private static void seedAnyNumber() {
        Due.sentence("Promise 14: z becomes v: what it was (any number)");
        FathersPay x = new FathersPay();
        int was = 1;
        for (int v : new int[] {0, -1, Integer.MIN_VALUE, Integer.MAX_VALUE, Due.LOW, Due.BEYOND, Due.PARTED, 7}) {
            Due.due("z was", x.seed(v), was);
            Due.due("z", x.count(9), v);
            was = v;
        }
        for (int k = 1; k <= 6; k++) {
            Due.due("no ERROR told", x.told(k), 0);
        }
    }

    private static void fedBytes() {
        Due.sentence("Promise 15: The n lowest bytes (1 .. 8). BEYOND");
        Due.ends("feed: n", v -> new FathersPay().feed(0, v), 1, 8);
        Due.sentence("Promise 15: the lowest first, n of them alone");
        long word = Due.word("1+2*3+4c");
        int[] worth = {1, -2, 3, -4, 7, -6, 11, -7};
        for (int n = 1; n <= 8; n++) {
            FathersPay x = new FathersPay();
            Due.due("how many there are", x.feed(word, n), n);
            x.person(600, 99, 0);
            x.debt(0, 99, 0);
            int due = worth[n - 1];
            Due.due("a TEXT of " + n, x.text(0), due > 0 ? 1 : -10 + due);
            Due.due("what it is worth", x.called(0, 0), due > 0 ? due : 99);
        }
        Due.sentence("Promise 15: FULL");
        for (int n = 1; n <= 8; n++) {
            FathersPay x = new FathersPay();
            for (int i = 0; i < 7; i++) {
                x.feed(0, 8);
            }
            Due.due("56 and " + n, x.feed(0, n), n <= 4 ? 56 + n : Due.FULL);
            Due.due("there are", x.count(6), n <= 4 ? 56 + n : 56);
        }
    }

    private static void textsOfUses() {
        Due.sentence("Promise 16: a USE (0, 1). BEYOND (THE TAPE stays)");
        Due.ends("text: use", v -> {
            FathersPay x = new FathersPay();
            x.feed('p', 1);
            int answer = x.text(v);
            Due.due("THE TAPE", x.count(6), v == 0 || v == 1 ? 0 : 1);
            return answer;
        }, 0, 1);
        Due.sentence("Promise 16: THE TAPE is empty then; -10 less the FAULT (no ERROR; the one ahead stays)");
        FathersPay x = new FathersPay();
        x.person(600, 99, 0);
        x.debt(0, 50, 0);
        Due.due("an empty TAPE", x.text(0), -10);
        Towns.tell(x, 0, "7");
        Due.due("its bytes", x.count(6), 0);
        Due.due("an empty TAPE behind it", x.text(0), -10);
        Due.feed(x, "c+".repeat(30));
        Due.due("the greatest FAULT", x.text(0), -70);
        Due.due("its bytes", x.count(6), 0);
        Due.due("the one ahead stays", x.called(0, 0), 7);
        Towns.tell(x, 0, "8");
        Due.due("in place of one ahead", x.called(0, 0), 8);
        for (int k = 1; k <= 6; k++) {
            Due.due("no ERROR", x.told(k), 0);
        }
        Due.sentence("Promise 17: 1 if there was, else 0. BEYOND");
        Due.ends("untell: use", v -> new FathersPay().untell(v), 0, 1);
        for (int use = 0; use <= 1; use++) {
            FathersPay y = new FathersPay();
            Towns.tell(y, use, "p");
            Due.due("none of the other USE", y.untell(1 - use), 0);
            Due.due("there was", y.untell(use), 1);
            Due.due("there is none", y.untell(use), 0);
        }
    }

    private static void whatWouldBe() {
        Due.sentence("Promise 18: BEYOND");
        Due.ends("called: debt", v -> Towns.owingTen().called(v, 0), 0, 9);
        Due.ends("called: person", v -> Towns.settled().called(0, v), 0, 4);
        Due.sentence("Promise 19: BEYOND");
        Due.ends("lost: debt", v -> Towns.owingTen().lost(v), 0, 9);
        Due.sentence("Promise 20: BEYOND");
        Due.ends("bespoke: person", v -> Towns.settled().bespoke(v), 0, 4);
        Due.due("nobody is there", new FathersPay().bespoke(0), Due.BEYOND);
        Due.sentence("Promise 21: part 0 above, 1 below the line. BEYOND");
        Due.ends("safe: debt", v -> Towns.owingTen().safe(v, 0), 0, 9);
        Due.ends("safe: part", v -> Towns.owingTen().safe(0, v), 0, 1);
        Due.sentence("Promises 18, 19, 21: STATE: it is settled");
        FathersPay x = Towns.owingTen();
        x.fails(9);
        Due.due("called", x.called(9, 0), Due.STATE);
        Due.due("lost", x.lost(9), Due.STATE);
        Due.due("safe", x.safe(9, 0), Due.STATE);
        Due.due("safe", x.safe(9, 1), Due.STATE);
        Due.sentence("Promise 22: BEYOND. NONE: there is no child");
        Due.ends("disown: person", v -> ring(v).disown(v), 0, 11);
        Due.due("no child", Towns.settled().disown(4), Due.NONE);
        Due.due("nobody is there", new FathersPay().disown(0), Due.BEYOND);
        Due.sentence("Promise 23: BEYOND. STATE: it is settled, or who owes has a FATHER. NONE: nobody can");
        Due.ends("adopt: debt", v -> {
            FathersPay y = Towns.owingTen();
            y.person(0, 0, 0);
            return y.adopt(v);
        }, 0, 9);
        FathersPay y = Towns.poor(2);
        y.debt(0, 1, 0);
        y.debt(0, 1, 0);
        Due.due("one who can", y.adopt(0), 1);
        y.parent(0, 0, 1);
        Due.due("a FATHER", y.adopt(0), Due.STATE);
        y.parent(0, 0, -1);
        y.parent(0, 1, 1);
        Due.due("a MOTHER: nobody else", y.adopt(0), Due.NONE);
        y.parent(0, 1, -1);
        y.parent(1, 0, 0);
        Due.due("one who is under alone", y.adopt(0), Due.NONE);
        y.fails(0);
        Due.due("settled", y.adopt(0), Due.STATE);
        Due.due("oneself alone", Towns.owingTen().adopt(0), Due.NONE);
    }

    /** Twelve PERSONS, of whom one (if it is one) has a child. */
    private static FathersPay ring(int person) {
        FathersPay x = Towns.poor(12);
        x.parent(person == 0 ? 11 : 0, 1, person);
        return x;
    }

    private static void needed() {
        Due.sentence("Promise 24: What THE TOWN would have to have, were all DEBTS OWED in DEFAULT now (LOST together)");
        Due.due("nobody is there", new FathersPay().needs(), 0);
        Due.due("ten", Towns.owingTen().needs(), 10);
        FathersPay x = Towns.poor(1);
        for (int d = 0; d < 10; d++) {
            x.debt(0, 99999, 9999);
        }
        Due.due("the most that there can be", x.needs(), 999990);
        x.fails(4);
        Due.due("OWED ones", x.needs(), 899991);
        Towns.give(x, 0, 99999, 99999);
        Due.due("two are paid", x.needs(), 699993);
        x.days(60);
        Due.due("not yet DUE ones, too", x.needs(), 699993);
    }
}
