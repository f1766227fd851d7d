/** Terms 5 and 6, sentence by sentence: VOICES, BODIES, THE TRACE, what SHEETS are. */
public final class TermsVoicesTest {
    private static final int MIN = Integer.MIN_VALUE;
    private static final int MAX = Integer.MAX_VALUE;

    public static void main(String[] args) {
        numbersWrap();
        theNumberK();
        mAsTold();
        fourVoices();
        leavesCut();
        parted();
        partedIsAll();
        nextKindAbove();
        superFromTheKindAbove();
        traceAsTheyBegan();
        traceOfTheLatest();
        traceFirstThirty();
        sheetsAtFirst();
        sheetsOfBits();
        sheetsOfNumbers();
        Due.end();
    }

    /** Twelve PERSONS of one KIND and m. */
    private static FathersPay all(int km) {
        FathersPay x = new FathersPay();
        for (int p = 0; p < 12; p++) {
            x.person(km, 0, 0);
        }
        return x;
    }

    private static void numbersWrap() {
        Due.sentence("Term 5: with a number x (ints that wrap)");
        FathersPay x = all(99);
        Due.due("owes of the greatest", x.voice(0, 0, MAX), MAX);
        Due.due("owes and 1", x.voice(1, 0, MAX), MIN);
        Due.due("owes of the least", x.voice(11, 0, MIN), MIN + 11);
        Due.due("pays of 2 ** 30", x.voice(0, 1, 1 << 30), MIN);
        Due.due("pays of the greatest", x.voice(0, 1, MAX), -2);
        Due.due("asks of the least half", x.voice(0, 2, 1 << 30), MAX - 98);
        Due.due("leaves of the least by 99", x.voice(0, 3, MIN), MIN / 99);
        Towns.become(x, 1, 100);
        Due.due("BOUNDED owes of the least", x.voice(1, 0, MIN), MAX - 4);
        Towns.become(x, 1, 200);
        Due.due("SHUT pays: 0 less the least", x.voice(1, 1, (1 << 30) - 1), MIN);
        Towns.become(x, 1, 500);
        Due.due("OPEN pays: the greatest and 1", x.voice(1, 1, MAX), 2 * (MIN + 1));
        Towns.become(x, 1, 400);
        Due.due("TAKEN owes: three times", x.voice(1, 0, MAX), (MAX - 5) * 3);
        Towns.become(x, 1, 699);
        Due.due("TOLD pays", x.voice(1, 1, MAX), 14 + 99);
    }

    private static void theNumberK() {
        Due.sentence("Term 5: k is the number");
        FathersPay x = all(50);
        for (int k = 0; k < 12; k++) {
            Due.due("owes", x.voice(k, 0, 100), 100 + k);
            Due.due("leaves", x.voice(k, 3, 1000), 1000 / (50 - k));
            Towns.become(x, k, 450);
            Due.due("TAKEN asks", x.voice(k, 2, 100), ((100 + k - 6) * 3 * 2 - 50) ^ k);
        }
    }

    private static void mAsTold() {
        Due.sentence("Term 5: m as told");
        FathersPay x = all(0);
        for (int m = 0; m <= 99; m += 33) {
            x.set(1, 1, m);
            Due.due("asks", x.voice(1, 2, 10), 22 - m);
            Due.due("leaves", x.voice(1, 3, 1000), 1000 / (m - 1));
            Towns.become(x, 2, 600 + m);
            Due.due("TOLD pays", x.voice(2, 1, 10), 14 + m);
        }
    }

    private static void fourVoices() {
        Due.sentence("Term 5: 0 owes, 1 pays, 2 asks, 3 leaves");
        Due.ends("voice", v -> all(50).voice(0, v, 1), 0, 3);
        FathersPay x = all(50);
        int[] due = {101, 202, 152, 2};
        for (int voice = 0; voice < 4; voice++) {
            Due.due("voice " + voice, x.voice(1, voice, 100), due[voice]);
            Due.due("its BODY", x.body(0), 10 + voice);
        }
    }

    private static void leavesCut() {
        Due.sentence("Term 5: 13 leaves: x by (m - k), cut");
        FathersPay x = all(3);
        int[] values = {MIN, -7, -3, -2, -1, 0, 1, 2, 3, 7, MAX};
        for (int v : values) {
            Due.due("by 3", x.voice(0, 3, v), v / 3);
            Due.due("by 1", x.voice(2, 3, v), v);
            Due.due("by -1", x.voice(4, 3, v), -v);
            Due.due("by -8", x.voice(11, 3, v), v / -8);
        }
    }

    private static void parted() {
        Due.sentence("Term 5: PARTED if that is 0");
        for (int k = 0; k < 12; k++) {
            FathersPay x = all(k);
            for (int p = 0; p < 12; p++) {
                Due.due("k " + p + ", m " + k, x.voice(p, 3, 132), p == k ? Due.PARTED : 132 / (k - p));
            }
            Due.due("told", x.told(6), 1);
            Due.due("x of 0, too", x.voice(k, 3, 0), Due.PARTED);
            Due.due("a quotient of 0 isn't PARTED", x.voice(k == 0 ? 2 : 0, 3, 0), 0);
            Due.due("told", x.told(6), 2);
            for (int voice = 0; voice < 3; voice++) {
                x.voice(k, voice, 0);
            }
            Due.due("no other VOICE is", x.told(6), 2);
        }
    }

    private static void partedIsAll() {
        Due.sentence("Term 5: that is all that voice() answers then");
        for (int kind = 0; kind <= 6; kind++) {
            FathersPay x = all(100 * kind + 4);
            Due.due("KIND " + kind, x.voice(4, 3, 77), Due.PARTED);
            boolean isBounded = kind == 1 || kind == 4;
            Due.due("BODIES", x.count(8), isBounded ? 2 : 1);
            Due.due("the last BODY", x.body(isBounded ? 1 : 0), 13);
        }
    }

    private static void nextKindAbove() {
        Due.sentence("Term 5: owes(..) is the BODY of its KIND, or of the next KIND above that has one");
        int[][] first = {{10, 11, 12, 13}, {20, 11, 12, 21}, {10, 30, 12, 13}, {10, 11, 40, 13}, {50, 11, 51, 21},
            {10, 60, 40, 13}, {70, 71, 12, 13}};
        for (int kind = 0; kind <= 6; kind++) {
            FathersPay x = all(100 * kind + 50);
            for (int voice = 0; voice < 4; voice++) {
                x.voice(0, voice, 5);
                Due.due("first BODY of voice " + voice + ", KIND " + kind, x.body(0), first[kind][voice]);
            }
        }
        FathersPay x = all(450);
        x.voice(0, 1, 5);
        Due.due("PERSON's pays asks for owes of TAKEN", x.body(1), 50);
        Towns.become(x, 0, 550);
        x.voice(0, 2, 5);
        Due.due("PERSON's asks asks for pays of OPEN", x.body(2), 60);
    }

    private static void superFromTheKindAbove() {
        Due.sentence("Term 5: super.owes(..) that from the KIND above the BODY's on");
        FathersPay x = all(450);
        x.voice(0, 0, 5);
        Due.due("super of TAKEN: BOUNDED", x.body(1), 20);
        Due.due("super of BOUNDED: PERSON", x.body(2), 10);
        x.voice(0, 2, 5);
        Due.due("super of TAKEN, where BOUNDED has none: PERSON", x.body(1), 12);
        x.voice(0, 3, 5);
        Due.due("super of BOUNDED, in TAKEN: PERSON", x.body(1), 13);
        Towns.become(x, 0, 550);
        x.voice(0, 1, 5);
        Due.due("super of OPEN, where HALVING has none: PERSON", x.body(1), 11);
        x.voice(0, 2, 5);
        Due.due("super of HALVING, in OPEN: PERSON", x.body(1), 12);
        Towns.become(x, 0, 650);
        x.voice(0, 1, 5);
        Due.due("super of TOLD: PERSON", x.body(1), 11);
        Towns.become(x, 0, 250);
        x.voice(0, 1, 5);
        Due.due("super of SHUT: PERSON", x.body(1), 11);
    }

    private static void traceAsTheyBegan() {
        Due.sentence("Term 5: THE TRACE: the numbers of BODIES as they began (what stands left is worked out first)");
        FathersPay x = all(450);
        x.voice(1, 3, 5);
        int[] due = {21, 13, 11, 50, 20, 10};
        Due.due("how many", x.count(8), due.length);
        for (int i = 0; i < due.length; i++) {
            Due.due("BODY " + i, x.body(i), due[i]);
        }
    }

    private static void traceOfTheLatest() {
        Due.sentence("Term 5: THE TRACE of the latest voice()");
        FathersPay x = all(450);
        Due.due("none at first", x.count(8), 0);
        x.voice(1, 2, 5);
        Due.due("six", x.count(8), 6);
        Towns.become(x, 2, 0);
        x.voice(2, 0, 5);
        Due.due("one", x.count(8), 1);
        Due.due("first", x.body(0), 10);
        Due.due("none of the one ahead", x.body(1), Due.NONE);
        Towns.become(x, 3, 103);
        x.voice(3, 3, 5);
        Due.due("of a PARTED one, too", x.body(0), 21);
        x.voice(12, 0, 5);
        x.voice(0, 4, 5);
        Due.due("not of one that is BEYOND", x.body(0), 21);
        x.set(3, 0, 0);
        x.image();
        x.restore();
        Due.due("whatever comes behind", x.body(1), 13);
    }

    private static void traceFirstThirty() {
        Due.sentence("Term 5: THE TRACE: the first 30 (there are never so many)");
        int most = 0;
        for (int kind = 0; kind <= 6; kind++) {
            FathersPay x = all(100 * kind + 50);
            for (int voice = 0; voice < 4; voice++) {
                x.voice(0, voice, 5);
                most = Math.max(most, x.count(8));
                Due.holds("the last there is", x.body(x.count(8) - 1) >= 10);
                Due.due("no further one", x.body(x.count(8)), Due.NONE);
                Due.due("no thirtieth", x.body(29), Due.NONE);
                Due.due("none behind", x.body(30), Due.NONE);
            }
        }
        Due.due("the longest TRACE", most, 6);
    }

    private static void sheetsAtFirst() {
        Due.sentence("Term 6: SHEETS 0 .. 3, missing (as at first)");
        FathersPay x = new FathersPay();
        for (int sheet = 0; sheet < 4; sheet++) {
            Due.due("put", x.put(sheet, 0, 0), Due.NONE);
            Due.due("debts", x.debts(sheet), Due.NONE);
            Due.due("move", x.move(sheet, 0, sheet, 0, 0), Due.NONE);
        }
        Due.ends("SHEET", v -> new FathersPay().sheet(v, 8, 1), 0, 3);
    }

    private static void sheetsOfBits() {
        Due.sentence("Term 6: rows of 8, 16, 32 bits");
        for (int bits = -1; bits <= 65; bits++) {
            boolean is = bits == 0 || bits == 8 || bits == 16 || bits == 32;
            Due.due(bits + " bits", new FathersPay().sheet(0, bits, 1), is ? 1 : Due.BEYOND);
        }
        int[][] held = {{8, -128, 127}, {16, -32768, 32767}, {32, MIN, MAX}};
        for (int[] h : held) {
            // a PURSE is all that a number of a SHEET is compared with: 0 .. 99999
            FathersPay x = new FathersPay();
            int most = Math.min(h[2], 99999);
            x.person(0, most, 0);
            x.person(0, 1, 0);
            x.debt(1, 1, 0);
            Towns.lay(x, 0, h[0], most, 0);
            Due.due("the greatest of " + h[0] + " bits", x.judge(0, 0), 2);
            x.set(0, 5, 0);
            x.put(0, 0, h[1]);
            Due.due("the least of " + h[0] + " bits isn't 0", x.judge(0, 0), 0);
            if (h[0] < 32) {
                x.set(0, 5, most);
                x.put(0, 0, h[1] - 1);
                Due.due("one less wraps", x.judge(0, 0), 2);
                x.set(0, 5, most + 1);
                x.put(0, 0, most + 1);
                Due.due("one more is below 0", x.judge(0, 0), 0);
                x.set(0, 5, 0);
                x.put(0, 0, 1 << h[0]);
                Due.due("the lowest bits alone", x.judge(0, 0), 2);
            }
        }
    }

    private static void sheetsOfNumbers() {
        Due.sentence("Term 6: at most 24 numbers");
        for (int bits = 8; bits <= 32; bits *= 2) {
            int of = bits;
            Due.due("25", new FathersPay().sheet(0, of, 25), Due.BEYOND);
            for (int n = 0; n <= 24; n += 12) {
                FathersPay x = new FathersPay();
                Due.due("n " + n, x.sheet(3, of, n), 1);
                Due.due("the last", x.put(3, n - 1, 1), n == 0 ? Due.BEYOND : 1);
                Due.due("none behind", x.put(3, n, 1), Due.BEYOND);
            }
        }
    }
}
