/** Promises 1 to 7: a new object, PERSONS, THE LAW. */
public final class PersonsTest {
    public static void main(String[] args) {
        promise1();
        promise2();
        promise3();
        promise3LineAndHeirs();
        promise4();
        promise5();
        promise6();
        promise7();
        Due.end();
    }

    private static void promise1() {
        FathersPay x = new FathersPay();
        for (int what = 0; what <= 8; what++) {
            Due.due("count(" + what + ") of a new object", x.count(what), 0);
        }
        Due.due("z of a new object", x.count(9), 1);
        for (int k = 1; k <= 6; k++) {
            Due.due("told of a new object", x.told(k), 0);
        }
        Due.due("STEPS at first", x.rule(0, 9), 9);
        Due.due("HALVES at first", x.rule(1, 0), 0);
        Due.due("SISTERS at first", x.rule(2, 0), 0);
        Due.due("no TEXT of ANSWERS", x.untell(0), 0);
        Due.due("no TEXT of FRESH", x.untell(1), 0);
        Due.due("no IMAGE", x.restore(), Due.NONE);
        Due.due("no TRACE", x.body(0), Due.NONE);
        for (int sheet = 0; sheet < 4; sheet++) {
            Due.due("no SHEET", x.put(sheet, 0, 0), Due.NONE);
        }
        Due.due("no PERSON", x.personIs(0, 0), Due.BEYOND);
        Due.due("no DEBT", x.debtIs(0, 0), Due.BEYOND);
    }

    private static void promise2() {
        FathersPay x = new FathersPay();
        Due.due("KIND above 6", x.person(700, 0, 0), Due.BEYOND);
        Due.due("km below 0", x.person(-1, 0, 0), Due.BEYOND);
        Due.due("purse below 0", x.person(0, -1, 0), Due.BEYOND);
        Due.due("purse above", x.person(0, 100000, 0), Due.BEYOND);
        Due.due("house below 0", x.person(0, 0, -1), Due.BEYOND);
        Due.due("house above", x.person(0, 0, 100000), Due.BEYOND);
        Due.due("none of them came", x.count(0), 0);
        Due.due("the greatest of all", x.person(699, 99999, 99999), 0);
        Due.due("its KIND", x.personIs(0, 0), 6);
        Due.due("its m", x.personIs(0, 1), 99);
        for (int p = 1; p < 12; p++) {
            Due.due("the next", x.person(100 * (p % 7) + p, p, 2 * p), p);
        }
        Due.due("BEYOND ahead of FULL", x.person(0, 0, -1), Due.BEYOND);
        Due.due("FULL", x.person(0, 0, 0), Due.FULL);
        Due.due("told of FULL", x.told(4), 1);
        Due.due("twelve", x.count(0), 12);
    }

    private static void promise3() {
        FathersPay x = new FathersPay();
        x.person(517, 12, 345);
        int[] at = {5, 17, -1, -1, 1, 12, 345, 0, 0, 0};
        for (int what = 0; what < at.length; what++) {
            Due.due("personIs(0, " + what + ")", x.personIs(0, what), at[what]);
        }
        Due.due("what above", x.personIs(0, 10), Due.BEYOND);
        Due.due("what below", x.personIs(0, -1), Due.BEYOND);
        Due.due("person above", x.personIs(1, 0), Due.BEYOND);
        Due.due("person below", x.personIs(-1, 0), Due.BEYOND);
    }

    private static void promise3LineAndHeirs() {
        FathersPay x = new FathersPay();
        for (int p = 0; p < 6; p++) {
            x.person(0, 0, 0);
        }
        // 5 is above by 3 and 4 both; numbers fall and rise on the way up
        x.parent(3, 0, 0);
        x.parent(3, 1, 4);
        x.parent(4, 1, 5);
        x.parent(0, 0, 5);
        x.parent(1, 0, 3);
        Due.due("FATHER", x.personIs(3, 2), 0);
        Due.due("MOTHER", x.personIs(3, 3), 4);
        Due.due("LINE of 1", x.personIs(1, 8), 1 | 8 | 16 | 32);
        Due.due("LINE of 3", x.personIs(3, 8), 1 | 16 | 32);
        Due.due("LINE of 5", x.personIs(5, 8), 0);
        Due.due("HEIRS of 5", x.personIs(5, 9), 1 | 2 | 8 | 16);
        Due.due("HEIRS of 0", x.personIs(0, 9), 2 | 8);
        Due.due("HEIRS of 1", x.personIs(1, 9), 0);
        Due.due("LINE of 2", x.personIs(2, 8), 0);
        x.set(3, 4, 0);
        Due.due("LINE with a dead one", x.personIs(1, 8), 1 | 8 | 16 | 32);
        FathersPay chain = new FathersPay();
        for (int p = 0; p < 12; p++) {
            chain.person(0, 0, 0);
        }
        for (int p = 0; p < 11; p++) {
            chain.parent(p, p % 2, p + 1);
        }
        Due.due("LINE up", chain.personIs(0, 8), 4094);
        Due.due("HEIRS down", chain.personIs(11, 9), 2047);
        FathersPay back = new FathersPay();
        for (int p = 0; p < 12; p++) {
            back.person(0, 0, 0);
        }
        for (int p = 11; p > 0; p--) {
            back.parent(p, p % 2, p - 1);
        }
        Due.due("LINE down", back.personIs(11, 8), 2047);
        Due.due("HEIRS up", back.personIs(0, 9), 4094);
    }

    private static void promise4() {
        boolean[][] under = {
            {true, false, false, false, false, false, false},
            {true, true, false, false, false, false, false},
            {true, false, true, false, false, false, false},
            {true, false, false, true, false, false, false},
            {true, true, false, false, true, false, false},
            {true, false, false, true, false, true, false},
            {true, false, false, false, false, false, true}};
        FathersPay x = new FathersPay();
        for (int p = 0; p < 7; p++) {
            x.person(100 * p + 40 + p, 0, 0);
        }
        for (int p = 0; p < 7; p++) {
            for (int kind = 0; kind < 7; kind++) {
                Due.due("as(" + p + ", " + kind + ")", x.as(p, kind), under[p][kind] ? 40 + p : Due.KIND);
            }
        }
        Due.due("kind above", x.as(0, 7), Due.BEYOND);
        Due.due("kind below", x.as(0, -1), Due.BEYOND);
        Due.due("person above", x.as(7, 0), Due.BEYOND);
        Due.due("person below", x.as(-1, 0), Due.BEYOND);
    }

    private static void promise5() {
        FathersPay x = new FathersPay();
        x.person(312, 34, 56);
        x.person(0, 0, 0);
        x.parent(0, 0, 1);
        int[][] most = {{0, 6, 3}, {1, 99, 12}, {4, 0, 1}, {5, 99999, 34}, {6, 99999, 56}, {7, 9, 0}};
        for (int[] m : most) {
            Due.due("set(0, " + m[0] + ") to the other end", x.set(0, m[0], m[1]), m[2]);
        }
        int[] now = {6, 99, 1, -1, 0, 99999, 99999, 9};
        for (int what = 0; what < now.length; what++) {
            Due.due("behind set: " + what, x.personIs(0, what), now[what]);
        }
        int[] above = {7, 100, 0, 0, 2, 100000, 100000, 10};
        for (int what = 0; what < above.length; what++) {
            Due.due("set(0, " + what + ", above)", x.set(0, what, above[what]), Due.BEYOND);
            Due.due("set(0, " + what + ", -1)", x.set(0, what, -1), Due.BEYOND);
            Due.due("nothing set: " + what, x.personIs(0, what), now[what]);
        }
        Due.due("what above", x.set(0, 8, 0), Due.BEYOND);
        Due.due("what below", x.set(0, -1, 0), Due.BEYOND);
        Due.due("person above", x.set(2, 5, 0), Due.BEYOND);
        Due.due("person below", x.set(-1, 5, 0), Due.BEYOND);
        Due.due("the other one", x.personIs(1, 5), 0);
        Due.due("no money went", x.count(5), 0);
    }

    private static void promise6() {
        FathersPay x = new FathersPay();
        for (int p = 0; p < 4; p++) {
            x.person(0, 0, 0);
        }
        Due.due("a FATHER", x.parent(0, 0, 1), -1);
        Due.due("a MOTHER", x.parent(0, 1, 2), -1);
        Due.due("another FATHER", x.parent(0, 0, 3), 1);
        Due.due("the same FATHER", x.parent(0, 0, 3), 3);
        Due.due("FATHER as MOTHER", x.parent(0, 1, 3), Due.STATE);
        Due.due("MOTHER as FATHER", x.parent(0, 0, 2), Due.STATE);
        Due.due("oneself", x.parent(0, 0, 0), Due.STATE);
        Due.due("oneself as MOTHER", x.parent(0, 1, 0), Due.STATE);
        Due.due("one's child", x.parent(3, 1, 0), Due.STATE);
        Due.due("further up", x.parent(3, 0, 1), -1);
        Due.due("one's child's child", x.parent(1, 1, 0), Due.STATE);
        Due.due("one's child", x.parent(1, 0, 3), Due.STATE);
        Due.due("one who stands twice above is fine", x.parent(2, 0, 1), -1);
        Due.due("nothing changed by STATE", x.personIs(1, 8), 0);
        Due.due("no FATHER any more", x.parent(0, 0, -1), 3);
        Due.due("who was the MOTHER may be FATHER then", x.parent(0, 1, -1), 2);
        Due.due("so", x.parent(0, 0, 2), -1);
        Due.due("both none is fine", x.parent(3, 1, -1), -1);
        Due.due("what above", x.parent(0, 2, 1), Due.BEYOND);
        Due.due("what below", x.parent(0, -1, 1), Due.BEYOND);
        Due.due("other above", x.parent(0, 0, 4), Due.BEYOND);
        Due.due("other below", x.parent(0, 0, -2), Due.BEYOND);
        Due.due("person above", x.parent(4, 0, 1), Due.BEYOND);
        Due.due("person below", x.parent(-1, 0, 1), Due.BEYOND);
        Due.due("told of STATE", x.told(3), 7);
    }

    private static void promise7() {
        FathersPay x = new FathersPay();
        Due.due("STEPS", x.rule(0, 1), 9);
        Due.due("STEPS were 1", x.rule(0, 9), 1);
        Due.due("HALVES", x.rule(1, 1), 0);
        Due.due("HALVES were 1", x.rule(1, 0), 1);
        Due.due("SISTERS", x.rule(2, 1), 0);
        Due.due("SISTERS were 1", x.rule(2, 1), 1);
        int[][] beyond = {{0, 0}, {0, 10}, {0, -1}, {1, 2}, {1, -1}, {2, 2}, {2, -1}, {3, 0}, {3, 1}, {-1, 0}, {-1, 1}};
        for (int[] b : beyond) {
            Due.due("rule(" + b[0] + ", " + b[1] + ")", x.rule(b[0], b[1]), Due.BEYOND);
        }
        Due.due("STEPS still", x.rule(0, 9), 9);
        Due.due("HALVES still", x.rule(1, 0), 0);
        Due.due("SISTERS still", x.rule(2, 0), 1);
    }
}
