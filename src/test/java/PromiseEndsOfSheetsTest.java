/** Promises 25 to 37: the last number that each call takes at each end and the first that is BEYOND; empty and full. */
public final class PromiseEndsOfSheetsTest {
    public static void main(String[] args) {
        voices();
        bodies();
        sheetsLaid();
        numbersPut();
        numbersMoved();
        movedAsTheyWere();
        debtsOfSheets();
        judged();
        imagesKept();
        imageOfTapeAndNumbers();
        imageOfEmptyAndFull();
        numbersWait();
        checked();
        checkedOfTwelve();
        counted();
        told();
        Due.end();
    }

    private static void voices() {
        Due.sentence("Promise 25: A VOICE of a PERSON. BEYOND");
        Due.ends("voice: person", v -> Towns.settled().voice(v, 0, 0), 0, 4);
        Due.ends("voice: voice", v -> Towns.settled().voice(0, v, 0), 0, 3);
        Due.due("nobody is there", new FathersPay().voice(0, 0, 0), Due.BEYOND);
        Due.sentence("Promise 25: an answer that looks like an ERROR is none");
        FathersPay x = Towns.poor(1);
        for (int k = 1; k <= 6; k++) {
            Due.due("x", x.voice(0, 0, Due.LOW - k), Due.LOW - k);
        }
        for (int k = 1; k <= 6; k++) {
            Due.due("none told", x.told(k), 0);
        }
    }

    private static void bodies() {
        Due.sentence("Promise 26: THE TRACE's i-th. NONE: there is none such");
        FathersPay x = Towns.settled();
        int n = x.count(8);
        int[] due = {40, 12, 60, 11, 10};
        Due.due("how many", n, due.length);
        for (int i = 0; i < n; i++) {
            Due.due("BODY " + i, x.body(i), due[i]);
        }
        for (int i : new int[] {-1, Integer.MIN_VALUE, n, n + 1, 29, 30, 31, Integer.MAX_VALUE}) {
            Due.due("BODY " + i, x.body(i), Due.NONE);
        }
        Due.due("none at first", new FathersPay().body(0), Due.NONE);
    }

    private static void sheetsLaid() {
        Due.sentence("Promise 27: BEYOND. STATE: n is below 0 (ahead of BEYOND of n)");
        for (int bits = 8; bits <= 32; bits *= 2) {
            int of = bits;
            Due.ends("sheet: sheet", v -> new FathersPay().sheet(v, of, 0), 0, 3);
            Due.due("n 0", new FathersPay().sheet(0, of, 0), 1);
            Due.due("n 24", new FathersPay().sheet(0, of, 24), 1);
            Due.due("n 25", new FathersPay().sheet(0, of, 25), Due.BEYOND);
            Due.due("n of the greatest int", new FathersPay().sheet(0, of, Integer.MAX_VALUE), Due.BEYOND);
            Due.due("n -1", new FathersPay().sheet(0, of, -1), Due.STATE);
            Due.due("n of the least int", new FathersPay().sheet(0, of, Integer.MIN_VALUE), Due.STATE);
        }
        for (int bits : new int[] {-1, 1, 7, 9, 15, 17, 24, 31, 33, 64, -8, Integer.MIN_VALUE, Integer.MAX_VALUE}) {
            Due.due("bits " + bits, new FathersPay().sheet(0, bits, 1), Due.BEYOND);
        }
        Due.sentence("Promise 27: 0: it is missing, n doesn't matter");
        for (int n : new int[] {-1, 0, 1, 24, 25, Integer.MIN_VALUE, Integer.MAX_VALUE}) {
            FathersPay x = new FathersPay();
            Due.due("missing already", x.sheet(2, 0, n), 1);
            x.sheet(2, 8, 3);
            Due.due("missing by n of " + n, x.sheet(2, 0, n), 1);
            Due.due("so", x.put(2, 0, 1), Due.NONE);
        }
        Due.sentence("Promise 27: n numbers, all 0");
        FathersPay x = Towns.poor(12);
        x.debt(0, 1, 0);
        x.sheet(0, 8, 24);
        for (int i = 0; i < 24; i++) {
            x.put(0, i, 7);
        }
        x.sheet(0, 32, 24);
        Due.due("all 0", x.judge(0, 0), 12);
        Due.due("another SHEET is missing still", x.judge(1, 0), Due.NONE);
    }

    private static void numbersPut() {
        Due.sentence("Promise 28: BEYOND: no such SHEET. NONE: it is missing. BEYOND: no such number");
        Due.ends("put: sheet", v -> fourSheets().put(v, 0, 0), 0, 3);
        Due.ends("put: i", v -> fourSheets().put(0, v, 0), 0, 23);
        Due.ends("put: i of one", v -> fourSheets().put(1, v, 0), 0, 0);
        Due.due("a SHEET without numbers", fourSheets().put(2, 0, 0), Due.BEYOND);
        Due.due("missing", new FathersPay().put(0, 0, 0), Due.NONE);
        Due.sentence("Promise 28: Number i becomes v");
        FathersPay x = Towns.poor(12);
        x.debt(0, 1, 0);
        x.sheet(0, 16, 12);
        for (int p = 0; p < 12; p++) {
            x.set(p, 5, 1000 + p);
            Due.due("put", x.put(0, p, p == 0 ? 999 : 1000 + p), 1);
        }
        Due.due("all are so", x.judge(0, 0), 12);
        Due.sentence("Promise 28: Number i of a SHEET becomes v: no other number, no other SHEET");
        int[] row = {11, 12, 13, 14};
        for (int sheet = 0; sheet < 4; sheet++) {
            for (int i = 0; i < 4; i++) {
                FathersPay y = Towns.poor(5);
                y.debt(4, 1, 0);
                for (int other = 0; other < 4; other++) {
                    Towns.lay(y, other, 16, 11, 12, 13, 14, 0);
                }
                y.put(sheet, i, 77);
                for (int p = 0; p < 4; p++) {
                    y.set(p, 5, row[p]);
                }
                for (int other = 0; other < 4; other++) {
                    Due.due("SHEET " + other + " by " + i + " of " + sheet, y.judge(other, 0), other == sheet ? i : 5);
                }
                y.set(i, 5, 77);
                Due.due("all others are so", y.judge(sheet, 0), 5);
                y.sheet(sheet, 0, 0);
                Due.due("missing alone", y.judge((sheet + 1) % 4, 0), i);
            }
        }
    }

    /** SHEETS of 24, 1, 0, 3 numbers of 8 bits. */
    private static FathersPay fourSheets() {
        FathersPay x = new FathersPay();
        x.sheet(0, 8, 24);
        x.sheet(1, 8, 1);
        x.sheet(2, 8, 0);
        x.sheet(3, 8, 3);
        return x;
    }

    private static void numbersMoved() {
        Due.sentence("Promise 29: BEYOND: no such SHEET");
        Due.ends("move: sheet", v -> fourSheets().move(v, 0, 0, 0, 0), 0, 3);
        Due.ends("move: other", v -> fourSheets().move(0, 0, v, 0, 0), 0, 3);
        Due.sentence("Promise 29: NONE: one is missing. KIND: they are of unlike bits");
        FathersPay x = new FathersPay();
        Due.due("both", x.move(0, 0, 1, 0, 0), Due.NONE);
        x.sheet(0, 8, 0);
        Due.due("the other", x.move(0, 0, 1, 0, 0), Due.NONE);
        Due.due("the first", x.move(1, 0, 0, 0, 0), Due.NONE);
        int[] bits = {8, 16, 32};
        for (int one : bits) {
            for (int other : bits) {
                FathersPay y = new FathersPay();
                y.sheet(0, one, 2);
                y.sheet(1, other, 2);
                Due.due(one + " and " + other, y.move(0, 0, 1, 0, 2), one == other ? 2 : Due.KIND);
            }
        }
        Due.sentence("Promise 29: BEYOND: n, i, or j is below 0, or they don't stand there");
        Due.ends("move: n, to the ends of both", v -> fourSheets().move(3, 0, 0, 21, v), 0, 3);
        Due.ends("move: n, to the end of the first", v -> fourSheets().move(3, 1, 0, 0, v), 0, 2);
        Due.ends("move: n, to the end of the other", v -> fourSheets().move(0, 0, 0, 19, v), 0, 5);
        Due.ends("move: n of all", v -> fourSheets().move(0, 0, 0, 0, v), 0, 24);
        Due.ends("move: i", v -> fourSheets().move(0, v, 3, 0, 3), 0, 21);
        Due.ends("move: j", v -> fourSheets().move(3, 0, 0, v, 3), 0, 21);
        Due.ends("move: i, none of them", v -> fourSheets().move(3, v, 0, 0, 0), 0, 3);
        Due.ends("move: j, none of them", v -> fourSheets().move(0, 0, 3, v, 0), 0, 3);
        Due.ends("move: none of a SHEET without numbers", v -> fourSheets().move(2, 0, 2, 0, v), 0, 0);
    }

    private static void movedAsTheyWere() {
        Due.sentence("Promise 29: another one (or the same), as they all were");
        int[] row = {1, 2, 3, 4, 5, 6};
        for (int i = 0; i <= 6; i++) {
            for (int j = 0; j <= 6; j++) {
                int n = Math.min(6 - i, 6 - j);
                for (int other = 0; other <= 1; other++) {
                    FathersPay x = Towns.poor(6);
                    x.debt(0, 1, 0);
                    Towns.lay(x, 0, 8, row);
                    Towns.lay(x, 1, 8, row);
                    Due.due("n", x.move(0, i, other, j, n), n);
                    for (int p = 0; p < 6; p++) {
                        x.set(p, 5, p >= j && p < j + n ? row[p - j + i] : row[p]);
                    }
                    x.set(0, 5, x.personIs(0, 5) + 1);
                    Due.due("from " + i + " to " + j, x.judge(other, 0), 6);
                    for (int p = 0; p < 6; p++) {
                        x.set(p, 5, row[p] + (p == 0 ? 1 : 0));
                    }
                    Due.due("the SHEET that they were on", x.judge(1 - other, 0), 6);
                }
            }
        }
    }

    private static void debtsOfSheets() {
        Due.sentence("Promise 30: BEYOND. NONE");
        Due.ends("debts: sheet", v -> fourSheets().debts(v), 0, 3);
        Due.due("missing", new FathersPay().debts(0), Due.NONE);
        Due.sentence("Promise 30: how many came, up to the first that isn't whole");
        for (int n = 0; n <= 24; n++) {
            FathersPay x = Towns.poor(1);
            x.sheet(0, 8, n);
            for (int i = 1; i < n; i += 3) {
                x.put(0, i, 1);
            }
            Due.due("of " + n + " numbers", x.debts(0), n / 3);
            Due.due("DEBTS", x.count(2), n / 3);
        }
        Due.sentence("Promise 30: up to the first that debt() would refuse (no ERROR then)");
        int[][] refused = {{2, 1, 0}, {-1, 1, 0}, {0, 0, 0}, {0, -1, 0}, {0, 100000, 0}, {0, 1, -1}, {0, 1, 10000}};
        int[][] taken = {{1, 1, 0}, {0, 1, 0}, {0, 99999, 0}, {0, 1, 9999}};
        for (int at = 0; at < 3; at++) {
            for (int[] three : refused) {
                FathersPay x = withThree(at, three);
                Due.due("refused at " + at, x.debts(0), at);
                Due.due("DEBTS", x.count(2), at);
                Due.due("no ERROR", x.told(1), 0);
            }
            for (int[] three : taken) {
                FathersPay x = withThree(at, three);
                Due.due("taken at " + at, x.debts(0), 3);
                for (int what = 0; what < 3; what++) {
                    Due.due("as it stands", x.debtIs(at, what), three[what]);
                }
                Due.due("OWED", x.debtIs(at, 3), 1);
            }
        }
        for (int ahead = 0; ahead <= 10; ahead++) {
            FathersPay x = withThree(0, taken[0]);
            for (int d = 0; d < ahead; d++) {
                x.debt(0, 1, 0);
            }
            Due.due("FULL behind " + ahead, x.debts(0), Math.min(3, 10 - ahead));
            Due.due("no ERROR", x.told(4), 0);
        }
    }

    /** Two PERSONS and a SHEET of three DEBTS, of which one is told. */
    private static FathersPay withThree(int at, int[] three) {
        FathersPay x = Towns.poor(2);
        Towns.lay(x, 0, 32, 1, 5, 0, 0, 6, 1, 1, 7, 2);
        for (int i = 0; i < 3; i++) {
            x.put(0, 3 * at + i, three[i]);
        }
        return x;
    }

    private static void judged() {
        Due.sentence("Promise 31: BEYOND: SHEET, DEBT. NONE: it is missing. STATE: the DEBT is settled");
        Due.ends("judge: sheet", v -> {
            FathersPay x = fourSheets();
            x.person(0, 0, 0);
            x.debt(0, 1, 0);
            return x.judge(v, 0);
        }, 0, 3);
        Due.ends("judge: debt", v -> {
            FathersPay x = Towns.owingTen();
            x.sheet(0, 8, 1);
            return x.judge(0, v);
        }, 0, 9);
        FathersPay y = Towns.owingTen();
        Due.due("missing", y.judge(0, 0), Due.NONE);
        y.sheet(0, 8, 1);
        y.fails(0);
        Due.due("settled", y.judge(0, 0), Due.STATE);
        Due.sentence("Promise 31: also one without a number; as many as there are PERSONS: none");
        for (int persons = 1; persons <= 12; persons++) {
            for (int n = 0; n <= 24; n++) {
                FathersPay x = Towns.poor(persons);
                x.debt(0, 1, 0);
                x.sheet(0, 8, n);
                Due.due(persons + " PERSONS, " + n + " numbers", x.judge(0, 0), Math.min(persons, n));
            }
        }
    }

    private static void imagesKept() {
        Due.sentence("Promise 32: in place of one ahead: how often that was done");
        FathersPay x = new FathersPay();
        for (int i = 1; i <= 5; i++) {
            x.person(0, i, 0);
            Due.due("how often", x.image(), i);
            Due.due("TODAY", x.restore(), 0);
            Due.due("the latest", x.count(0), i);
        }
        Due.sentence("Promise 33: NONE: there is none");
        Due.due("none", new FathersPay().restore(), Due.NONE);
        Due.sentence("Promise 33: the IMAGE, which stays: TODAY");
        x.days(9);
        x.image();
        for (int i = 0; i < 3; i++) {
            x.days(1);
            x.person(0, 0, 0);
            Due.due("TODAY", x.restore(), 9);
            Due.due("TODAY", x.count(4), 9);
            Due.due("PERSONS", x.count(0), 5);
        }
        Due.sentence("Promise 32: All (but SHEETS, THE TRACE, what told() tells, and how often this was done)");
        x.sheet(0, 8, 1);
        x.voice(0, 0, 0);
        x.restore();
        Due.due("SHEETS stay", x.put(0, 0, 0), 1);
        Due.due("THE TRACE stays", x.body(0), 10);
        x.personIs(99, 0);
        x.restore();
        Due.due("what is told stays", x.told(1), 1);
        Due.due("how often stays", x.image(), 7);
    }

    private static void imageOfTapeAndNumbers() {
        Due.sentence("Promise 32: All is kept: the bytes of THE TAPE, the numbers that wait, TEXTS that there are or not");
        FathersPay x = Towns.chain(2, 0);
        Towns.become(x, 0, 600);
        x.set(0, 5, 30);
        x.set(1, 5, 9);
        x.debt(0, 60, 0);
        Due.feed(x, "c/4");
        x.tell(0);
        x.tell(1);
        x.image();
        for (int times = 0; times < 2; times++) {
            Due.due("the numbers that wait", x.check(0), 0);
            Due.due("THE TAPE", x.text(0), 1);
            Due.due("its TEXT", x.called(0, 0), 15);
            Due.feed(x, "!!!");
            x.tell(7);
            x.tell(8);
            x.text(0);
            Towns.tell(x, 1, "5");
            x.restore();
            Due.due("no ANSWERS", x.untell(0), 0);
            Due.due("no FRESH", x.untell(1), 0);
        }
        x.text(0);
        x.image();
        Towns.tell(x, 0, "c/6");
        Due.due("another TEXT", x.called(0, 0), 10);
        x.restore();
        Due.due("the TEXT that was kept", x.called(0, 0), 15);
        x.untell(0);
        x.restore();
        Due.due("not told any more, but kept", x.called(0, 0), 15);
    }

    private static void imageOfEmptyAndFull() {
        Due.sentence("Promise 32: All of a full object is kept, and nothing of it stays behind an empty IMAGE");
        FathersPay x = new FathersPay();
        x.image();
        fill(x, 1);
        x.restore();
        for (int what = 0; what <= 7; what++) {
            Due.due("count(" + what + ") of nothing", x.count(what), 0);
        }
        Due.due("z", x.count(9), 1);
        Due.due("no TEXT", x.untell(0) + x.untell(1), 0);
        Due.due("STEPS", x.rule(0, 9), 9);
        Due.due("HALVES", x.rule(1, 0), 0);
        Due.due("SISTERS", x.rule(2, 0), 0);
        fill(x, 2);
        x.image();
        for (int p = 0; p < 12; p++) {
            x.parent(p, 0, -1);
            x.parent(p, 1, -1);
            Towns.become(x, p, 0);
            Towns.give(x, p, 0, 0);
            x.set(p, 4, 0);
            x.set(p, 7, 0);
        }
        x.rule(0, 9);
        x.rule(1, 0);
        x.rule(2, 0);
        x.check(9);
        x.days(60);
        x.text(0);
        Towns.tell(x, 0, "0");
        Towns.tell(x, 1, "0");
        x.seed(3);
        Due.due("restored", x.restore(), 0);
        isFull(x, 2);
    }

    private static final String TAPE_OF_SIXTY = "c/2+" + "1+".repeat(28);

    /** All rows full; what stands in them depends on a number. */
    private static void fill(FathersPay x, int by) {
        for (int p = 0; p < 12; p++) {
            x.person(100 * (p % 7) + by + p, 1000 * by + p, 2000 * by + p);
            x.set(p, 7, (by + p) % 10);
        }
        for (int p = 0; p < 10; p++) {
            x.parent(p, 0, p + 1);
            x.parent(p, 1, p + 2);
        }
        for (int d = 0; d < 10; d++) {
            x.debt(d, 500 * by + d, 100 * by + d);
        }
        Towns.tell(x, 0, "c/" + by);
        Towns.tell(x, 1, "" + by);
        Due.feed(x, TAPE_OF_SIXTY);
        for (int i = 0; i < 24; i++) {
            x.tell(i < 12 ? i : by);
        }
        x.rule(0, by);
        x.rule(1, 1);
        x.rule(2, 1);
        x.seed(by);
    }

    private static void isFull(FathersPay x, int by) {
        for (int p = 0; p < 12; p++) {
            int[] due = {p % 7, by + p, p < 10 ? p + 1 : -1, p < 10 ? p + 2 : -1, 1, 1000 * by + p, 2000 * by + p, (by + p) % 10};
            for (int what = 0; what <= 7; what++) {
                Due.due("personIs(" + p + ", " + what + ")", x.personIs(p, what), due[what]);
            }
        }
        for (int d = 0; d < 10; d++) {
            int[] due = {d, 500 * by + d, 100 * by + d, 1};
            for (int what = 0; what <= 3; what++) {
                Due.due("debtIs(" + d + ", " + what + ")", x.debtIs(d, what), due[what]);
            }
        }
        int[] counts = {12, 12, 10, 10, 0, 0, 60, 24};
        for (int what = 0; what <= 7; what++) {
            Due.due("count(" + what + ")", x.count(what), counts[what]);
        }
        Due.due("z", x.count(9), by);
        Due.due("STEPS", x.rule(0, by), by);
        Due.due("HALVES", x.rule(1, 1), 1);
        Due.due("SISTERS", x.rule(2, 1), 1);
        Due.due("ANSWERS of the TOLD one who owes", x.called(6, 6), (500 * by + 6) / by);
        Due.due("the numbers that wait: 6 is the first who pays", x.check(6), 1);
        int before = x.personIs(0, 5);
        for (int p = 0; p < 12; p++) {
            x.set(p, 7, 0);
        }
        x.years(1);
        Due.due("FRESH", x.personIs(0, 5) - before, by);
        Due.due("THE TAPE: it ends too early", x.text(0), -70);
    }

    private static void numbersWait() {
        Due.sentence("Promise 34: One more number waits: how many. FULL: 24 wait");
        FathersPay x = new FathersPay();
        int[] any = {0, -1, Integer.MIN_VALUE, Integer.MAX_VALUE, Due.BEYOND};
        for (int i = 1; i <= 24; i++) {
            Due.due("how many", x.tell(any[i % 5]), i);
            Due.due("how many", x.count(7), i);
        }
        Due.due("the 25th", x.tell(0), Due.FULL);
        Due.due("24", x.count(7), 24);
        x.check(0);
        Due.due("the first again", x.tell(0), 1);
    }

    private static void checked() {
        Due.sentence("Promise 35: BEYOND, STATE as of called() (none wait then, too)");
        Due.ends("check: debt", v -> {
            FathersPay x = Towns.owingTen();
            x.tell(3);
            int answer = x.check(v);
            Due.due("none wait", x.count(7), 0);
            return answer;
        }, 0, 9);
        FathersPay x = Towns.owingTen();
        x.fails(0);
        x.tell(0);
        Due.due("settled", x.check(0), Due.STATE);
        Due.due("none wait", x.count(7), 0);
        Due.sentence("Promise 35: those who would PAY (more than 0)");
        FathersPay y = Towns.chain(3, 0);
        y.debt(0, 1, 0);
        y.set(1, 5, 1);
        Due.due("none waits", y.check(0), 1);
        y.tell(1);
        Due.due("1 would PAY 1", y.check(0), 0);
        y.tell(0);
        Due.due("0 has nothing", y.check(0), 1);
        y.tell(1);
        y.tell(2);
        Due.due("2 isn't called", y.check(0), 2);
        y.set(1, 5, 0);
        Due.due("nobody would", y.check(0), 0);
        y.tell(1);
        Due.due("one too many", y.check(0), 1);
    }

    private static void checkedOfTwelve() {
        Due.sentence("Promise 35: the least first: 0; else 1 and the place of the first that isn't so (lacks, or is too many)");
        for (int told = 0; told <= 24; told++) {
            FathersPay x = Towns.poor(12);
            x.rule(2, 1);
            for (int p = 2; p < 12; p++) {
                x.parent(p, 0, 0);
                x.parent(p, 1, 1);
            }
            for (int p = 0; p < 12; p++) {
                x.set(p, 5, 1);
            }
            x.debt(11, 12, 0);
            for (int i = 0; i < told; i++) {
                x.tell(i);
            }
            Due.due(told + " numbers, twelve would PAY", x.check(0), told == 12 ? 0 : 1 + Math.min(12, told));
            for (int p = 0; p < 12; p++) {
                x.tell(p == told ? 12 : p);
            }
            Due.due("wrong at " + told, x.check(0), told < 12 ? 1 + told : 0);
        }
    }

    private static void counted() {
        Due.sentence("Promise 36: count. BEYOND");
        Due.ends("count: what", v -> new FathersPay().count(v), 0, 9);
        FathersPay x = Towns.settled();
        int[] due = {5, 5, 4, 3, 1, 0, 2, 4, 5, 77};
        for (int what = 0; what <= 9; what++) {
            Due.due("count(" + what + ")", x.count(what), due[what]);
        }
        Due.sentence("Promise 36: 9 z (any number)");
        for (int k = 1; k <= 6; k++) {
            x.seed(Due.LOW - k);
            Due.due("z", x.count(9), Due.LOW - k);
            Due.due("no ERROR", x.told(k), 0);
        }
    }

    private static void told() {
        Due.sentence("Promise 37: (k 1 .. 6); BEYOND: another k (counted, too)");
        Due.ends("told: k", v -> new FathersPay().told(v), 1, 6);
        FathersPay x = new FathersPay();
        int beyond = 0;
        for (int k : new int[] {0, 7, -1, 8, Integer.MIN_VALUE, Integer.MAX_VALUE}) {
            Due.due("told(" + k + ")", x.told(k), Due.BEYOND);
            beyond++;
            Due.due("counted, too", x.told(1), beyond);
        }
        for (int k = 2; k <= 6; k++) {
            Due.due("no other one", x.told(k), 0);
        }
    }
}
