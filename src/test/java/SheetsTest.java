/** Promises 27 to 31: SHEETS, DEBTS from them, RECORDS. */
public final class SheetsTest {
    public static void main(String[] args) {
        promise27();
        promise28();
        promise29();
        promise30();
        promise31();
        Due.end();
    }

    private static void promise27() {
        FathersPay x = new FathersPay();
        Due.due("sheet above", x.sheet(4, 8, 1), Due.BEYOND);
        Due.due("sheet below", x.sheet(-1, 8, 1), Due.BEYOND);
        int[] bits = {-8, 1, 7, 9, 24, 64, Integer.MIN_VALUE};
        for (int b : bits) {
            Due.due("bits " + b, x.sheet(0, b, 1), Due.BEYOND);
        }
        Due.due("n below 0", x.sheet(0, 8, -1), Due.STATE);
        Due.due("n far below 0", x.sheet(0, 32, Integer.MIN_VALUE), Due.STATE);
        Due.due("n above", x.sheet(0, 16, 25), Due.BEYOND);
        Due.due("n far above", x.sheet(0, 16, Integer.MAX_VALUE), Due.BEYOND);
        Due.due("BEYOND of the sheet first", x.sheet(4, 8, -1), Due.BEYOND);
        Due.due("BEYOND of bits first", x.sheet(0, 9, -1), Due.BEYOND);
        Due.due("still missing", x.put(0, 0, 0), Due.NONE);
        Due.due("24", x.sheet(0, 8, 24), 1);
        Due.due("the last", x.put(0, 23, 1), 1);
        Due.due("not one more", x.put(0, 24, 1), Due.BEYOND);
        Due.due("ERRORS change nothing", x.sheet(0, 8, 25), Due.BEYOND);
        Due.due("the last", x.put(0, 23, 1), 1);
        Due.due("none", x.sheet(0, 32, 0), 1);
        Due.due("there, but without numbers", x.put(0, 0, 1), Due.BEYOND);
        Due.due("missing, n doesn't matter", x.sheet(0, 0, -5), 1);
        Due.due("missing", x.put(0, 0, 1), Due.NONE);
        Due.due("missing, n doesn't matter", x.sheet(0, 0, 99), 1);
        Due.due("missing once more", x.debts(0), Due.NONE);
        x.sheet(3, 8, 3);
        x.person(0, 0, 0);
        x.put(3, 1, 5);
        Due.due("a DEBT", x.debts(3), 1);
        x.sheet(3, 8, 3);
        Due.due("all 0 again", x.debts(3), 0);
        Due.due("each for itself", x.debts(2), Due.NONE);
    }

    private static void promise28() {
        FathersPay x = new FathersPay();
        Due.due("sheet above", x.put(4, 0, 0), Due.BEYOND);
        Due.due("sheet below", x.put(-1, 0, 0), Due.BEYOND);
        Due.due("missing ahead of no such number", x.put(0, -1, 0), Due.NONE);
        x.sheet(0, 16, 3);
        Due.due("below", x.put(0, -1, 0), Due.BEYOND);
        Due.due("above", x.put(0, 3, 0), Due.BEYOND);
        x.person(0, 0, 0);
        int[][] lowest = {{8, 256 + 77, 77}, {8, 127, 127}, {8, -129, 127}, {16, 65536 + 300, 300}, {16, 32767, 32767},
            {16, -32769, 32767}, {16, 200, 200}, {32, 70000, 70000}, {32, 99999, 99999}};
        for (int i = 0; i < lowest.length; i++) {
            x.sheet(0, lowest[i][0], 3);
            Due.due("put", x.put(0, 1, lowest[i][1]), 1);
            Due.due("a DEBT of it", x.debts(0), 1);
            Due.due("its lowest bits", x.debtIs(i, 1), lowest[i][2]);
        }
        int[][] noSum = {{8, -1}, {8, 128}, {8, 200}, {8, 255}, {8, 256}, {8, -128}, {8, Integer.MIN_VALUE},
            {8, Integer.MAX_VALUE}, {16, -1}, {16, 32768}, {16, 40000}, {16, 65535}, {16, 65536}, {16, -32768},
            {16, Integer.MIN_VALUE}, {16, Integer.MAX_VALUE}, {32, -1}, {32, 100000}, {32, Integer.MIN_VALUE},
            {32, Integer.MAX_VALUE}};
        for (int[] none : noSum) {
            x.sheet(0, none[0], 3);
            x.put(0, 1, none[1]);
            Due.due(none[1] + " by " + none[0] + " bits is no SUM", x.debts(0), 0);
        }
    }

    private static int at(FathersPay x, int sheet, int i) {
        // numbers of a SHEET are seen by DEBTS alone: who 0, the number, due 0
        x.sheet(3, 16, 3);
        x.move(sheet, i, 3, 1, 1);
        x.image();
        int came = x.debts(3);
        int sum = came == 0 ? 0 : x.debtIs(x.count(2) - 1, 1);
        x.restore();
        return sum;
    }

    private static void promise29() {
        FathersPay x = new FathersPay();
        x.person(0, 0, 0);
        Due.due("sheet above", x.move(4, 0, 0, 0, 0), Due.BEYOND);
        Due.due("sheet below", x.move(-1, 0, 0, 0, 0), Due.BEYOND);
        Due.due("other above", x.move(0, 0, 4, 0, 0), Due.BEYOND);
        Due.due("other below", x.move(0, 0, -1, 0, 0), Due.BEYOND);
        Due.due("both missing", x.move(0, -1, 1, 0, 0), Due.NONE);
        x.sheet(0, 16, 6);
        Due.due("other missing", x.move(0, -1, 1, 0, 0), Due.NONE);
        Due.due("sheet missing", x.move(1, -1, 0, 0, 0), Due.NONE);
        x.sheet(1, 32, 6);
        Due.due("unlike bits ahead of BEYOND", x.move(0, -1, 1, 0, 0), Due.KIND);
        Due.due("unlike bits, nothing to move", x.move(1, 0, 0, 0, 0), Due.KIND);
        x.sheet(1, 16, 4);
        int[][] beyond = {{-1, 0, 1}, {0, -1, 1}, {0, 0, -1}, {0, 0, 5}, {0, 0, 7}, {5, 0, 2}, {0, 3, 2}, {6, 0, 1}, {0, 4, 1},
            {7, 0, 0}, {0, 5, 0}, {Integer.MAX_VALUE, 0, 1}, {0, Integer.MAX_VALUE, 1}, {1, 1, Integer.MAX_VALUE},
            {Integer.MAX_VALUE, 0, Integer.MAX_VALUE}, {0, 0, Integer.MIN_VALUE}};
        for (int[] b : beyond) {
            Due.due("move from " + b[0] + " to " + b[1] + " of " + b[2], x.move(0, b[0], 1, b[1], b[2]), Due.BEYOND);
        }
        Due.due("none from the end to the end", x.move(0, 6, 1, 4, 0), 0);
        for (int i = 0; i < 6; i++) {
            x.put(0, i, 10 + i);
        }
        Due.due("four", x.move(0, 2, 1, 0, 4), 4);
        for (int i = 0; i < 4; i++) {
            Due.due("moved", at(x, 1, i), 12 + i);
            Due.due("they stay where they were, too", at(x, 0, 2 + i), 12 + i);
        }
        Due.due("up within one", x.move(0, 0, 0, 1, 5), 5);
        int[] up = {10, 10, 11, 12, 13, 14};
        for (int i = 0; i < 6; i++) {
            Due.due("as they all were", at(x, 0, i), up[i]);
        }
        Due.due("down within one", x.move(0, 2, 0, 0, 4), 4);
        int[] down = {11, 12, 13, 14, 13, 14};
        for (int i = 0; i < 6; i++) {
            Due.due("as they all were", at(x, 0, i), down[i]);
        }
    }

    private static void promise30() {
        FathersPay x = new FathersPay();
        Due.due("sheet above", x.debts(4), Due.BEYOND);
        Due.due("sheet below", x.debts(-1), Due.BEYOND);
        Due.due("missing", x.debts(0), Due.NONE);
        x.person(0, 0, 0);
        x.person(0, 0, 0);
        x.sheet(0, 16, 8);
        int[] row = {1, 30, 40, 0, 50, 9999, 1, 60};
        for (int i = 0; i < row.length; i++) {
            x.put(0, i, row[i]);
        }
        Due.due("two whole ones", x.debts(0), 2);
        for (int i = 0; i < 6; i++) {
            Due.due("as they stand", x.debtIs(i / 3, i % 3), row[i]);
        }
        Due.due("OWED", x.debtIs(1, 3), 1);
        x.put(0, 5, 10000);
        Due.due("DUE of the second", x.debts(0), 1);
        x.put(0, 5, 0);
        x.put(0, 4, 0);
        Due.due("SUM of the second", x.debts(0), 1);
        x.put(0, 0, 2);
        Due.due("none such", x.debts(0), 0);
        Due.due("four", x.count(2), 4);
        x.sheet(0, 8, 24);
        for (int i = 1; i < 24; i += 3) {
            x.put(0, i, i);
        }
        Due.due("up to ten in all", x.debts(0), 6);
        Due.due("ten", x.count(2), 10);
        Due.due("none any more", x.debts(0), 0);
        Due.due("ERRORS told are of SHEETS alone", x.told(1), 2);
        Due.due("none of FULL", x.told(4), 0);
        belowZero();
        x.sheet(1, 32, 2);
        Due.due("not a whole one", x.debts(1), 0);
        x.sheet(1, 32, 0);
        Due.due("no number", x.debts(1), 0);
    }

    /** -1 as who, SUM, DUE of the second one stays -1 in each width, moved or not: debt() refuses it. */
    private static void belowZero() {
        for (int bits = 8; bits <= 32; bits *= 2) {
            for (int at = 3; at < 6; at++) {
                FathersPay x = new FathersPay();
                x.person(0, 0, 0);
                x.sheet(0, bits, 9);
                x.put(0, 1, 5);
                x.put(0, 4, 6);
                x.put(0, 7, 7);
                x.put(0, at, -1);
                Due.due("-1 at " + at + " in " + bits + " bits", x.debts(0), 1);
                x.sheet(1, bits, 6);
                Due.due("moved", x.move(0, 0, 1, 0, 6), 6);
                Due.due("-1 moved at " + at + " in " + bits + " bits", x.debts(1), 1);
                x.move(0, 6, 0, 3, 3);
                Due.due("written over", x.debts(0), 3);
                Due.due("no ERROR", x.told(1), 0);
            }
        }
    }

    private static void promise31() {
        FathersPay x = new FathersPay();
        x.person(0, 10, 0);
        x.person(0, 300, 5);
        x.person(0, 7, 0);
        x.parent(0, 0, 1);
        x.debt(0, 14, 0);
        x.debt(1, 303, 0);
        Due.due("sheet above", x.judge(4, 0), Due.BEYOND);
        Due.due("sheet below", x.judge(-1, 0), Due.BEYOND);
        Due.due("debt above, missing", x.judge(0, 2), Due.BEYOND);
        Due.due("debt below", x.judge(0, -1), Due.BEYOND);
        Due.due("missing", x.judge(0, 0), Due.NONE);
        x.sheet(0, 16, 3);
        Due.due("0 is so, 1 isn't", x.judge(0, 0), 1);
        x.put(0, 1, 296);
        Due.due("2 isn't", x.judge(0, 0), 2);
        x.put(0, 2, 7);
        Due.due("all are so", x.judge(0, 0), 3);
        Due.due("again", x.judge(0, 0), 3);
        x.put(0, 0, 10);
        Due.due("PURSES ahead of it aren't asked", x.judge(0, 0), 0);
        x.put(0, 1, 0);
        Due.due("of the other DEBT: HOUSES don't stand there", x.judge(0, 1), 3);
        x.sheet(1, 16, 2);
        x.put(1, 1, 296);
        Due.due("one without a number", x.judge(1, 0), 2);
        x.sheet(1, 8, 3);
        x.put(1, 1, 296);
        Due.due("8 bits of 296 are 40", x.judge(1, 0), 1);
        x.put(1, 0, 10);
        x.put(1, 1, 0);
        x.set(2, 5, 127);
        x.put(1, 2, 127);
        Due.due("127 by 8 bits is 127", x.judge(1, 1), 3);
        x.put(1, 2, -129);
        Due.due("-129 by 8 bits is 127", x.judge(1, 1), 3);
        x.set(2, 5, 200);
        x.put(1, 2, 200);
        Due.due("200 by 8 bits is below 0", x.judge(1, 1), 2);
        x.sheet(1, 16, 3);
        x.put(1, 0, 10);
        x.put(1, 2, 200);
        Due.due("200 by 16 bits is 200", x.judge(1, 1), 3);
        x.set(2, 5, 32768);
        x.put(1, 2, 32768);
        Due.due("32768 by 16 bits is below 0", x.judge(1, 1), 2);
        x.sheet(1, 32, 3);
        x.put(1, 0, 10);
        x.put(1, 2, 32768);
        Due.due("32768 by 32 bits is 32768", x.judge(1, 1), 3);
        x.set(2, 5, 200);
        x.sheet(1, 16, 24);
        x.put(1, 1, 296);
        x.put(1, 2, 200);
        x.put(1, 3, 9);
        Due.due("what is behind doesn't matter", x.judge(1, 0), 3);
        x.sheet(2, 32, 0);
        Due.due("without numbers", x.judge(2, 0), 0);
        Due.due("nothing changed", x.personIs(0, 5), 10);
        x.fails(0);
        Due.due("settled", x.judge(0, 0), Due.STATE);
        x.sheet(0, 0, 0);
        Due.due("missing ahead of settled", x.judge(0, 0), Due.NONE);
    }
}
