/** The Terms' first words and term 1, sentence by sentence: ERRORS, PERSONS, KINDS, DEBTS, TODAY, THE TOWN. */
public final class TermsPersonsTest {
    public static void main(String[] args) {
        errors();
        errorsInLongs();
        quotients();
        atMostTwelve();
        parentsAtFirst();
        alive();
        purse();
        house();
        frail();
        nobodyAboveOneself();
        notBothAtOnce();
        kinds();
        numberM();
        atMostTenDebts();
        sum();
        dueOnDay();
        owedOrSettled();
        today();
        townAtFirst();
        townBelow();
        townAbove();
        Due.end();
    }

    private static void errors() {
        Due.sentence("Terms: LOW - 1 BEYOND, LOW - 2 NONE, LOW - 3 STATE, LOW - 4 FULL, LOW - 5 KIND, LOW - 6 PARTED");
        FathersPay x = Towns.poor(12);
        x.debt(0, 1, 0);
        Due.due("BEYOND", x.lost(1), -1000000001);
        Due.due("NONE", x.disown(0), -1000000002);
        Due.due("STATE", x.settle(0), -1000000003);
        Due.due("FULL", x.person(0, 0, 0), -1000000004);
        Due.due("KIND", x.as(0, 1), -1000000005);
        Due.due("PARTED", x.voice(0, 3, 1), -1000000006);
        for (int k = 1; k <= 6; k++) {
            Due.due("each once", x.told(k), 1);
        }
        Due.sentence("Terms: ERRORS are answers below -1000000000");
        x.seed(-1000000000);
        Due.due("LOW is none", x.seed(-1000000001), -1000000000);
        Due.due("z is any number", x.seed(0), -1000000001);
        Due.due("BEYOND but once", x.told(1), 1);
    }

    private static void errorsInLongs() {
        Due.sentence("Terms: ERRORS (in longs, too)");
        FathersPay x = Towns.poor(1);
        Due.due("BEYOND", x.safe(0, 0), -1000000001L);
        x.debt(0, 1, 0);
        x.fails(0);
        Due.due("STATE", x.safe(0, 0), -1000000003L);
        Due.due("BEYOND told", x.told(1), 1);
        Due.due("STATE told", x.told(3), 1);
    }

    private static void quotients() {
        Due.sentence("Terms: Quotients are cut toward 0");
        FathersPay x = Towns.poor(4);
        x.set(1, 1, 3);
        Due.due("7 by 2", x.voice(1, 3, 7), 3);
        Due.due("-7 by 2", x.voice(1, 3, -7), -3);
        Due.due("1 by 2", x.voice(1, 3, 1), 0);
        Due.due("-1 by 2", x.voice(1, 3, -1), 0);
        x.set(2, 1, 0);
        Due.due("7 by -2", x.voice(2, 3, 7), -3);
        Due.due("-7 by -2", x.voice(2, 3, -7), 3);
        Due.due("1 by -2", x.voice(2, 3, 1), 0);
        Towns.become(x, 3, 300);
        Due.due("x / 2 of 3", x.voice(3, 2, 3), (1 + 3) * 2);
        Due.due("x / 2 of -3", x.voice(3, 2, -3), (-1 + 3) * 2);
        Due.due("x / 2 of -1", x.voice(3, 2, -1), 3 * 2);
        Due.holds("(0-7)/2", Texts.isWorth("(0-7)/2", -3));
        Due.holds("7/(0-2)", Texts.isWorth("7/(0-2)", -3));
        Due.holds("(0-7)/(0-2)", Texts.isWorth("(0-7)/(0-2)", 3));
    }

    private static void atMostTwelve() {
        Due.sentence("Term 1: PERSONS 0, 1, .. (at most 12)");
        FathersPay x = new FathersPay();
        for (int p = 0; p < 12; p++) {
            Due.due("number", x.person(0, 0, 0), p);
        }
        Due.due("the thirteenth", x.person(0, 0, 0), Due.FULL);
        Due.due("twelve", x.count(0), 12);
        Due.due("the twelfth", x.personIs(11, 4), 1);
        Due.due("no thirteenth", x.personIs(12, 4), Due.BEYOND);
    }

    private static void parentsAtFirst() {
        Due.sentence("Term 1: each have a FATHER and a MOTHER (PERSONS; -1: none, at first)");
        FathersPay x = Towns.poor(12);
        for (int p = 0; p < 12; p++) {
            Due.due("FATHER", x.personIs(p, 2), -1);
            Due.due("MOTHER", x.personIs(p, 3), -1);
        }
        for (int other = 1; other < 12; other++) {
            x.parent(0, 0, other);
            Due.due("FATHER", x.personIs(0, 2), other);
            Due.due("FATHER was", x.parent(0, 0, -1), other);
            x.parent(0, 1, other);
            Due.due("MOTHER", x.personIs(0, 3), other);
            Due.due("MOTHER was", x.parent(0, 1, -1), other);
        }
        Due.due("none again", x.personIs(0, 2), -1);
        Due.due("none again", x.personIs(0, 3), -1);
    }

    private static void alive() {
        Due.sentence("Term 1: are ALIVE (1; at first) or not (0)");
        FathersPay x = Towns.poor(1);
        Due.due("at first", x.personIs(0, 4), 1);
        Due.due("below", x.set(0, 4, -1), Due.BEYOND);
        Due.due("above", x.set(0, 4, 2), Due.BEYOND);
        Due.due("not any more", x.set(0, 4, 0), 1);
        Due.due("not ALIVE", x.personIs(0, 4), 0);
        Due.due("none of them", x.count(1), 0);
        Due.due("again", x.set(0, 4, 1), 0);
        Due.due("ALIVE", x.personIs(0, 4), 1);
        Due.due("one", x.count(1), 1);
    }

    private static void purse() {
        Due.sentence("Term 1: a PURSE (0 .. 99999)");
        coins(5);
    }

    private static void house() {
        Due.sentence("Term 1: a HOUSE (what it is worth; 0 .. 99999)");
        coins(6);
    }

    /** A PERSON with so many coins, in the PURSE (what 5) or the HOUSE (what 6). */
    private static int personWith(FathersPay x, int what, int coins) {
        return x.person(0, what == 5 ? coins : 0, what == 6 ? coins : 0);
    }

    private static void coins(int what) {
        FathersPay x = new FathersPay();
        Due.due("below", personWith(x, what, -1), Due.BEYOND);
        Due.due("above", personWith(x, what, 100000), Due.BEYOND);
        Due.due("empty", personWith(x, what, 0), 0);
        Due.due("full", personWith(x, what, 99999), 1);
        Due.due("empty", x.personIs(0, what), 0);
        Due.due("full", x.personIs(1, what), 99999);
        Due.due("the other one of the two", x.personIs(1, 11 - what), 0);
        Due.due("below", x.set(0, what, -1), Due.BEYOND);
        Due.due("above", x.set(0, what, 100000), Due.BEYOND);
        Due.due("full", x.set(0, what, 99999), 0);
        Due.due("empty", x.set(0, what, 0), 99999);
    }

    private static void frail() {
        Due.sentence("Term 1: FRAIL (0 .. 9 tenths; 0 at first)");
        FathersPay x = Towns.poor(1);
        Due.due("at first", x.personIs(0, 7), 0);
        Due.due("below", x.set(0, 7, -1), Due.BEYOND);
        Due.due("above", x.set(0, 7, 10), Due.BEYOND);
        Due.due("most", x.set(0, 7, 9), 0);
        Due.due("least", x.set(0, 7, 0), 9);
        x.set(0, 7, 9);
        Due.due("another PERSON", x.person(0, 0, 0), 1);
        Due.due("0 at first", x.personIs(1, 7), 0);
        FathersPay y = Towns.poor(1);
        y.image();
        y.person(0, 0, 0);
        y.set(1, 7, 9);
        y.restore();
        y.person(0, 0, 0);
        Due.due("0 at first, where another one stood ahead", y.personIs(1, 7), 0);
    }

    private static void nobodyAboveOneself() {
        Due.sentence("Term 1: Nobody may be above oneself (FATHERS and MOTHERS of any steps)");
        for (int steps = 0; steps <= 11; steps++) {
            for (int way = 0; way <= 2; way++) {
                FathersPay x = Towns.chain(steps + 1, way);
                ringIsRefused(x, 0, steps);
                FathersPay y = Towns.poor(12);
                for (int p = 11; p > 11 - steps; p--) {
                    y.parent(p, way == 2 ? p % 2 : way, p - 1);
                }
                ringIsRefused(y, 11, 11 - steps);
            }
        }
        FathersPay z = Towns.family(4);
        z.parent(1, 0, 3);
        Due.due("above by two ways is fine", z.parent(2, 1, 3), -1);
        Due.due("but not by a ring of one", z.parent(3, 0, 0), Due.STATE);
    }

    private static void ringIsRefused(FathersPay x, int least, int top) {
        Due.due("FATHER", x.parent(top, 0, least), Due.STATE);
        Due.due("MOTHER", x.parent(top, 1, least), Due.STATE);
        Due.due("no FATHER", x.personIs(top, 2), -1);
        Due.due("no MOTHER", x.personIs(top, 3), -1);
        Due.due("nobody above", x.personIs(top, 8), 0);
    }

    private static void notBothAtOnce() {
        Due.sentence("Term 1: nor FATHER and MOTHER of one at once");
        FathersPay x = Towns.poor(3);
        x.parent(0, 0, 1);
        Due.due("the FATHER as MOTHER", x.parent(0, 1, 1), Due.STATE);
        Due.due("no MOTHER", x.personIs(0, 3), -1);
        x.parent(0, 0, -1);
        Due.due("no FATHER any more", x.parent(0, 1, 1), -1);
        Due.due("the MOTHER as FATHER", x.parent(0, 0, 1), Due.STATE);
        Due.due("no FATHER", x.personIs(0, 2), -1);
        Due.due("both none", x.parent(0, 1, -1), 1);
        Due.due("both none", x.parent(0, 0, -1), -1);
        x.parent(0, 0, 1);
        Due.due("of another one", x.parent(2, 1, 1), -1);
    }

    private static void kinds() {
        Due.sentence("Term 1: KINDS: 0 PERSON .. 6 TOLD");
        for (int kind = 0; kind <= 6; kind++) {
            FathersPay x = new FathersPay();
            Due.due("a PERSON of a KIND", x.person(100 * kind, 0, 0), 0);
            Due.due("its KIND", x.personIs(0, 0), kind);
        }
        Due.due("KIND 7", new FathersPay().person(700, 0, 0), Due.BEYOND);
        Due.due("KIND -1", new FathersPay().person(-100, 0, 0), Due.BEYOND);
        Due.ends("set of KIND", v -> Towns.poor(1).set(0, 0, v), 0, 6);
        Due.sentence("Term 1: 1, 2, 3, 6 under PERSON, 4 under BOUNDED, 5 under HALVING");
        int[] above = {-1, 0, 0, 0, 1, 3, 0};
        FathersPay x = Towns.poor(1);
        for (int kind = 0; kind <= 6; kind++) {
            x.set(0, 0, kind);
            for (int as = 0; as <= 6; as++) {
                boolean is = as == kind || as == above[kind] || as == 0;
                Due.due("KIND " + kind + " as " + as, x.as(0, as), is ? 0 : Due.KIND);
            }
        }
    }

    private static void numberM() {
        Due.sentence("Term 1: each with a number m (0 .. 99)");
        Due.ends("set of m", v -> Towns.poor(1).set(0, 1, v), 0, 99);
        FathersPay x = new FathersPay();
        for (int kind = 0; kind <= 5; kind++) {
            x.person(100 * kind, 0, 0);
            x.person(100 * kind + 99, 0, 0);
            Due.due("KIND", x.personIs(2 * kind, 0), kind);
            Due.due("m", x.personIs(2 * kind, 1), 0);
            Due.due("KIND", x.personIs(2 * kind + 1, 0), kind);
            Due.due("m", x.personIs(2 * kind + 1, 1), 99);
        }
        FathersPay y = new FathersPay();
        Due.due("the last", y.person(699, 0, 0), 0);
        Due.due("m of TOLD", y.personIs(0, 1), 99);
    }

    private static void atMostTenDebts() {
        Due.sentence("Term 1: DEBTS 0, 1, .. (at most 10)");
        FathersPay x = Towns.poor(1);
        for (int d = 0; d < 10; d++) {
            Due.due("number", x.debt(0, 1, 0), d);
        }
        Due.due("the eleventh", x.debt(0, 1, 0), Due.FULL);
        Due.due("the tenth", x.debtIs(9, 1), 1);
        Due.due("no eleventh", x.debtIs(10, 1), Due.BEYOND);
        for (int d = 0; d < 10; d++) {
            x.fails(d);
        }
        Due.due("settled ones are DEBTS, too", x.debt(0, 1, 0), Due.FULL);
        Due.due("ten", x.count(2), 10);
    }

    private static void sum() {
        Due.sentence("Term 1: a SUM (1 .. 99999)");
        Due.ends("SUM", v -> Towns.poor(1).debt(0, v, 0), 1, 99999);
        FathersPay x = Towns.poor(1);
        x.debt(0, 1, 0);
        x.debt(0, 99999, 0);
        Due.due("least", x.debtIs(0, 1), 1);
        Due.due("most", x.debtIs(1, 1), 99999);
        Due.due("LOST of the least", x.lost(0), 1);
        Due.due("LOST of the most", x.lost(1), 99999);
    }

    private static void dueOnDay() {
        Due.sentence("Term 1: DUE on a DAY (0 .. 9999)");
        Due.ends("DUE", v -> Towns.poor(1).debt(0, 1, v), 0, 9999);
        FathersPay x = Towns.poor(1);
        x.debt(0, 1, 0);
        x.debt(0, 1, 9999);
        Due.due("first", x.debtIs(0, 2), 0);
        Due.due("last", x.debtIs(1, 2), 9999);
    }

    private static void owedOrSettled() {
        Due.sentence("Term 1: OWED (1) or settled (0)");
        FathersPay x = Towns.poor(1);
        for (int d = 0; d < 3; d++) {
            x.debt(0, 1, d == 2 ? 0 : 9);
            Due.due("OWED", x.debtIs(d, 3), 1);
        }
        x.set(0, 5, 1);
        x.settle(0);
        x.fails(1);
        x.days(1);
        for (int d = 0; d < 3; d++) {
            Due.due("settled", x.debtIs(d, 3), 0);
        }
        Due.due("none OWED", x.count(3), 0);
    }

    private static void today() {
        Due.sentence("Term 1: TODAY (0 .. 9999; 0 at first)");
        FathersPay x = Towns.poor(1);
        Due.due("at first", x.count(4), 0);
        x.debt(0, 1, 9999);
        for (int i = 0; i < 166; i++) {
            x.days(60);
        }
        Due.due("TODAY", x.days(38), 9998);
        Due.due("two more", x.days(2), Due.STATE);
        Due.due("one more: the last", x.days(1), 9999);
        Due.due("TODAY", x.count(4), 9999);
        Due.due("none more", x.days(1), Due.STATE);
        Due.due("what is DUE on the last is OWED still", x.debtIs(0, 3), 1);
    }

    private static void townAtFirst() {
        Due.sentence("Term 1: THE TOWN has a PURSE (0 at first), which may be below 0");
        FathersPay x = Towns.poor(1);
        Due.due("at first", x.count(5), 0);
        x.debt(0, 1, 0);
        x.fails(0);
        Due.due("below 0", x.count(5), -1);
    }

    private static void townBelow() {
        Due.sentence("Term 1: THE TOWN has a PURSE (-999999 .. 999999): all that can be lost lies within");
        FathersPay x = Towns.poor(1);
        for (int d = 0; d < 10; d++) {
            x.debt(0, 99999, 0);
        }
        for (int d = 0; d < 10; d++) {
            Due.due("LOST", x.fails(d), 99999);
            Due.due("THE TOWN", x.count(5), -99999 * (d + 1));
        }
        x.image();
        x.restore();
        Due.due("THE TOWN", x.count(5), -999990);
    }

    /** THE TOWN's PURSE when PERSONS have died who had so much in all, then less by a DEBT of 7. */
    private static void townsPurse(int sum, boolean inHouse) {
        FathersPay x = new FathersPay();
        for (int p = 0; p < 5; p++) {
            x.person(0, 99999, 99999);
        }
        int rest = sum - 999990;
        x.person(0, inHouse ? 0 : rest, inHouse ? rest : 0);
        for (int p = 0; p < 6; p++) {
            x.set(p, 7, 9);
        }
        x.debt(0, 7, 0);
        Towns.tell(x, Texts.FRESH, "0");
        for (int i = 0; i < 5; i++) {
            x.years(20);
        }
        Due.due("all are dead", x.count(1), 0);
        Due.due("THE TOWN by " + sum, x.count(5), Math.min(999999, sum));
        x.fails(0);
        Due.due("less by 7", x.count(5), Math.min(999999, sum) - 7);
    }

    private static void townAbove() {
        Due.sentence("Term 1: THE TOWN has a PURSE (-999999 .. 999999): held at the upper end");
        for (int sum : new int[] {999990, 999998, 999999, 1000000, 1000001, 1099989}) {
            townsPurse(sum, false);
            townsPurse(sum, true);
        }
    }
}
