import java.util.Arrays;

/** What the son owes his father pays. The document (../shared/DOC.md) says what each call answers. */
public final class FathersPay {
    private static final int LOW = -1000000000;
    private static final int BEYOND = 1;
    private static final int NONE = 2;
    private static final int STATE = 3;
    private static final int FULL = 4;
    private static final int KIND = 5;
    private static final int PARTED = 6;

    private static final int MOST_PERSONS = 12;
    private static final int MOST_DEBTS = 10;
    private static final int MOST_BYTES = 60;
    private static final int MOST_WAITING = 24;
    private static final int MOST_SHEETS = 4;
    private static final int MOST_NUMBERS = 24;
    private static final int MOST_TRACED = 30;
    private static final int MOST_FRAIL = 9;
    private static final int MOST_OPEN = 5;
    private static final int MOST_COINS = 99999;
    private static final int MOST_OF_TOWN = 999999;
    private static final int MOST_FRESH = 9999;
    private static final int LAST_DAY = 9999;

    private static final int PERSON = 0;
    private static final int BOUNDED = 1;
    private static final int SHUT = 2;
    private static final int HALVING = 3;
    private static final int TAKEN = 4;
    private static final int OPEN = 5;
    private static final int TOLD = 6;
    private static final int[] KIND_ABOVE = {-1, PERSON, PERSON, PERSON, BOUNDED, HALVING, PERSON};

    private static final int IS_KIND = 0;
    private static final int IS_M = 1;
    private static final int IS_FATHER = 2;
    private static final int IS_MOTHER = 3;
    private static final int IS_ALIVE = 4;
    private static final int IS_PURSE = 5;
    private static final int IS_HOUSE = 6;
    private static final int IS_FRAIL = 7;
    private static final int IS_LINE = 8;
    private static final int IS_HEIRS = 9;
    /** The most that set() takes; below 0 where it takes nothing (FATHER and MOTHER are parent()'s). */
    private static final int[] MOST_SET = {TOLD, 99, -1, -1, 1, MOST_COINS, MOST_COINS, 9};

    private static final int STEPS = 0;
    private static final int HALVES = 1;
    private static final int SISTERS = 2;
    private static final int[] LEAST_LAW = {1, 0, 0};
    private static final int[] MOST_LAW = {9, 1, 1};

    private static final int OWES = 0;
    private static final int PAYS = 1;
    private static final int ASKS = 2;
    private static final int LEAVES = 3;
    private static final int VOICES = 4;
    /** By KINDS, VOICES in each; 0 where the KIND has no BODY of its own. */
    private static final int[] BODIES = {
        10, 11, 12, 13,
        20, 0, 0, 21,
        0, 30, 0, 0,
        0, 0, 40, 0,
        50, 0, 51, 0,
        0, 60, 0, 0,
        70, 71, 0, 0};

    private static final int ANSWERS = 0;
    private static final int FRESH = 1;
    private static final String NAMES_OF_ANSWERS = "cphsm";
    private static final String NAMES_OF_FRESH = "phn";

    private final Town town;
    private final Town kept;
    private final Trial trial;
    private final Chances chances;
    private final Reader reader;
    private final Voices voices;
    private final Sheets sheets;
    private final int[] errors;
    private int images;

    public FathersPay() {
        town = new Town();
        kept = new Town();
        trial = new Trial(town);
        chances = new Chances(town, trial);
        reader = new Reader();
        voices = new Voices();
        sheets = new Sheets();
        errors = new int[PARTED + 1];
        images = 0;
    }

    // ---- persons

    public int person(int km, int purse, int house) {
        if (km < 0 || km >= 100 * (TOLD + 1) || !isCoins(purse) || !isCoins(house)) {
            return error(BEYOND);
        }
        if (town.folk.number >= MOST_PERSONS) {
            return error(FULL);
        }
        return town.folk.add(km / 100, km % 100, purse, house);
    }

    public int personIs(int person, int what) {
        if (!town.folk.has(person) || what < IS_KIND || what > IS_HEIRS) {
            return error(BEYOND);
        }
        if (what == IS_LINE) {
            return town.folk.line(person);
        }
        if (what == IS_HEIRS) {
            return town.folk.heirs(person);
        }
        return town.folk.rows[what][person];
    }

    public int as(int person, int kind) {
        if (!town.folk.has(person) || kind < PERSON || kind > TOLD) {
            return error(BEYOND);
        }
        if (!isUnder(town.folk.kind[person], kind)) {
            return error(KIND);
        }
        return town.folk.m[person];
    }

    public int set(int person, int what, int v) {
        if (!town.folk.has(person) || what < IS_KIND || what > IS_FRAIL || v < 0 || v > MOST_SET[what]) {
            return error(BEYOND);
        }
        int was = town.folk.rows[what][person];
        town.folk.rows[what][person] = v;
        return was;
    }

    public int parent(int person, int what, int other) {
        Folk folk = town.folk;
        if (!folk.has(person) || what < 0 || what > 1 || (other != -1 && !folk.has(other))) {
            return error(BEYOND);
        }
        int[] row = what == 0 ? folk.father : folk.mother;
        int[] rowOfOther = what == 0 ? folk.mother : folk.father;
        if (other != -1 && (other == person || rowOfOther[person] == other || isIn(folk.heirs(person), other))) {
            return error(STATE);
        }
        int was = row[person];
        row[person] = other;
        return was;
    }

    public int rule(int what, int v) {
        if (what < STEPS || what > SISTERS || v < LEAST_LAW[what] || v > MOST_LAW[what]) {
            return error(BEYOND);
        }
        int was = town.law[what];
        town.law[what] = v;
        return was;
    }

    // ---- debts

    public int debt(int person, int sum, int due) {
        if (!mayOwe(person, sum, due)) {
            return error(BEYOND);
        }
        if (town.bonds.number >= MOST_DEBTS) {
            return error(FULL);
        }
        return town.bonds.add(person, sum, due);
    }

    public int debtIs(int debt, int what) {
        if (!town.bonds.has(debt) || what < 0 || what >= town.bonds.rows.length) {
            return error(BEYOND);
        }
        return town.bonds.rows[what][debt];
    }

    public int fails(int debt) {
        int k = whyNot(debt);
        if (k != 0) {
            return error(k);
        }
        return defaultNow(debt);
    }

    public int settle(int debt) {
        if (!town.bonds.has(debt)) {
            return error(BEYOND);
        }
        Folk folk = town.folk;
        int who = town.bonds.who[debt];
        int sum = town.bonds.sum[debt];
        if (!town.bonds.isOwed(debt) || folk.alive[who] == 0 || folk.purse[who] + folk.house[who] < sum) {
            return error(STATE);
        }
        int ofPurse = Math.min(sum, folk.purse[who]);
        folk.purse[who] -= ofPurse;
        folk.house[who] -= sum - ofPurse;
        town.bonds.owed[debt] = 0;
        return folk.purse[who] + folk.house[who];
    }

    public int days(int n) {
        if (n < 1 || n > 60) {
            return error(BEYOND);
        }
        if (town.today + n > LAST_DAY) {
            return error(STATE);
        }
        for (int i = 0; i < n; i++) {
            for (int debt = 0; debt < town.bonds.number; debt++) {
                if (town.bonds.isOwed(debt) && town.bonds.due[debt] <= town.today) {
                    defaultNow(debt);
                }
            }
            town.today++;
        }
        return town.today;
    }

    public int years(int n) {
        if (n < 1 || n > 20) {
            return error(BEYOND);
        }
        int died = 0;
        for (int i = 0; i < n; i++) {
            died += town.passYear();
        }
        return died;
    }

    public int seed(int v) {
        int was = town.z;
        town.z = v;
        return was;
    }

    // ---- texts

    public int feed(long word, int n) {
        if (n < 1 || n > 8) {
            return error(BEYOND);
        }
        if (town.desk.bytes + n > MOST_BYTES) {
            return error(FULL);
        }
        for (int i = 0; i < n; i++) {
            town.desk.addByte((int) (word >>> (8 * i)) & 255);
        }
        return town.desk.bytes;
    }

    public int text(int use) {
        if (!isUse(use)) {
            return error(BEYOND);
        }
        String names = use == ANSWERS ? NAMES_OF_ANSWERS : NAMES_OF_FRESH;
        boolean isText = reader.reads(town.desk.tape, town.desk.bytes, names);
        town.desk.bytes = 0;
        if (!isText) {
            return -10 - reader.place;
        }
        town.textOf(use).become(reader.code, reader.length);
        return 1;
    }

    public int untell(int use) {
        if (!isUse(use)) {
            return error(BEYOND);
        }
        Text text = town.textOf(use);
        int was = text.stands ? 1 : 0;
        text.stands = false;
        return was;
    }

    // ---- what would be

    public int called(int debt, int person) {
        if (!town.bonds.has(debt) || !town.folk.has(person)) {
            return error(BEYOND);
        }
        if (!town.bonds.isOwed(debt)) {
            return error(STATE);
        }
        trial.begin();
        trial.failOne(debt);
        return trial.paid[person];
    }

    public int lost(int debt) {
        int k = whyNot(debt);
        if (k != 0) {
            return error(k);
        }
        trial.begin();
        trial.failOne(debt);
        return trial.toTown;
    }

    public int bespoke(int person) {
        if (!town.folk.has(person)) {
            return error(BEYOND);
        }
        trial.begin();
        trial.failAllOwed();
        return trial.paid[person];
    }

    public long safe(int debt, int part) {
        if (!town.bonds.has(debt) || part < 0 || part > 1) {
            return error(BEYOND);
        }
        if (!town.bonds.isOwed(debt) || chances.countFrail(town.bonds.who[debt]) > MOST_FRAIL) {
            return error(STATE);
        }
        chances.average(debt);
        return part == 0 ? chances.above : chances.below;
    }

    public int disown(int person) {
        Folk folk = town.folk;
        if (!folk.has(person)) {
            return error(BEYOND);
        }
        int best = -1;
        int least = 0;
        for (int child = 0; child < folk.number; child++) {
            if (folk.isChild(child, person)) {
                trial.begin();
                trial.cutTies(child, person);
                trial.failAllOwed();
                if (best < 0 || trial.paid[person] < least) {
                    best = child;
                    least = trial.paid[person];
                }
            }
        }
        return best < 0 ? error(NONE) : best;
    }

    public int adopt(int debt) {
        Folk folk = town.folk;
        if (!town.bonds.has(debt)) {
            return error(BEYOND);
        }
        int who = town.bonds.who[debt];
        if (!town.bonds.isOwed(debt) || folk.father[who] != -1) {
            return error(STATE);
        }
        int heirs = folk.heirs(who);
        int best = -1;
        int least = 0;
        for (int other = 0; other < folk.number; other++) {
            if (other != who && other != folk.mother[who] && !isIn(heirs, other)) {
                trial.begin();
                trial.father[who] = other;
                trial.failOne(debt);
                if (best < 0 || trial.toTown < least) {
                    best = other;
                    least = trial.toTown;
                }
            }
        }
        return best < 0 ? error(NONE) : best;
    }

    public int needs() {
        trial.begin();
        trial.failAllOwed();
        return trial.toTown;
    }

    // ---- voices, sheets, images, what is told

    public int voice(int person, int voice, int x) {
        if (!town.folk.has(person) || voice < OWES || voice > LEAVES) {
            return error(BEYOND);
        }
        int said = voices.speak(town.folk.kind[person], person, town.folk.m[person], voice, x);
        return voices.parted ? error(PARTED) : said;
    }

    public int body(int i) {
        if (i < 0 || i >= voices.traced) {
            return error(NONE);
        }
        return voices.trace[i];
    }

    public int sheet(int sheet, int bits, int n) {
        if (!sheets.has(sheet) || (bits != 0 && bits != 8 && bits != 16 && bits != 32)) {
            return error(BEYOND);
        }
        if (bits != 0 && n < 0) {
            return error(STATE);
        }
        if (bits != 0 && n > MOST_NUMBERS) {
            return error(BEYOND);
        }
        sheets.lay(sheet, bits, bits == 0 ? 0 : n);
        return 1;
    }

    public int put(int sheet, int i, int v) {
        if (!sheets.has(sheet)) {
            return error(BEYOND);
        }
        if (sheets.isMissing(sheet)) {
            return error(NONE);
        }
        if (i < 0 || i >= sheets.length[sheet]) {
            return error(BEYOND);
        }
        sheets.numbers[sheet][i] = lowestBits(v, sheets.bits[sheet]);
        return 1;
    }

    public int move(int sheet, int i, int other, int j, int n) {
        if (!sheets.has(sheet) || !sheets.has(other)) {
            return error(BEYOND);
        }
        if (sheets.isMissing(sheet) || sheets.isMissing(other)) {
            return error(NONE);
        }
        if (sheets.bits[sheet] != sheets.bits[other]) {
            return error(KIND);
        }
        if (!sheets.holds(sheet, i, n) || !sheets.holds(other, j, n)) {
            return error(BEYOND);
        }
        System.arraycopy(sheets.numbers[sheet], i, sheets.numbers[other], j, n);
        return n;
    }

    public int debts(int sheet) {
        if (!sheets.has(sheet)) {
            return error(BEYOND);
        }
        if (sheets.isMissing(sheet)) {
            return error(NONE);
        }
        int[] row = sheets.numbers[sheet];
        int came = 0;
        for (int i = 0; i + 2 < sheets.length[sheet] && town.bonds.number < MOST_DEBTS; i += 3) {
            if (!mayOwe(row[i], row[i + 1], row[i + 2])) {
                return came;
            }
            town.bonds.add(row[i], row[i + 1], row[i + 2]);
            came++;
        }
        return came;
    }

    public int judge(int sheet, int debt) {
        if (!sheets.has(sheet) || !town.bonds.has(debt)) {
            return error(BEYOND);
        }
        if (sheets.isMissing(sheet)) {
            return error(NONE);
        }
        if (!town.bonds.isOwed(debt)) {
            return error(STATE);
        }
        trial.begin();
        trial.failOne(debt);
        int right = 0;
        while (right < town.folk.number && right < sheets.length[sheet]
                && sheets.numbers[sheet][right] == trial.purse[right]) {
            right++;
        }
        return right;
    }

    public int image() {
        kept.become(town);
        images++;
        return images;
    }

    public int restore() {
        if (images == 0) {
            return error(NONE);
        }
        town.become(kept);
        return town.today;
    }

    public int tell(int v) {
        if (town.desk.waiting >= MOST_WAITING) {
            return error(FULL);
        }
        town.desk.waits[town.desk.waiting] = v;
        town.desk.waiting++;
        return town.desk.waiting;
    }

    public int check(int debt) {
        int waiting = town.desk.waiting;
        town.desk.waiting = 0;
        int k = whyNot(debt);
        if (k != 0) {
            return error(k);
        }
        trial.begin();
        trial.failOne(debt);
        int place = 0;
        for (int p = 0; p < town.folk.number; p++) {
            if (trial.paid[p] > 0) {
                if (place >= waiting || town.desk.waits[place] != p) {
                    return 1 + place;
                }
                place++;
            }
        }
        return place < waiting ? 1 + place : 0;
    }

    public int count(int what) {
        switch (what) {
            case 0:
                return town.folk.number;
            case 1:
                return town.folk.countAlive();
            case 2:
                return town.bonds.number;
            case 3:
                return town.bonds.countOwed();
            case 4:
                return town.today;
            case 5:
                return town.purse;
            case 6:
                return town.desk.bytes;
            case 7:
                return town.desk.waiting;
            case 8:
                return voices.traced;
            case 9:
                return town.z;
            default:
                return error(BEYOND);
        }
    }

    public int told(int k) {
        if (k < BEYOND || k > PARTED) {
            return error(BEYOND);
        }
        return errors[k];
    }

    /** The one place where ERRORS are made, so that each is counted. */
    private int error(int k) {
        errors[k]++;
        return LOW - k;
    }

    /** The ERROR of a DEBT that is not there or is settled; 0 if it can be in DEFAULT. */
    private int whyNot(int debt) {
        if (!town.bonds.has(debt)) {
            return BEYOND;
        }
        return town.bonds.isOwed(debt) ? 0 : STATE;
    }

    private boolean mayOwe(int person, int sum, int due) {
        return town.folk.has(person) && sum >= 1 && sum <= MOST_COINS && due >= 0 && due <= LAST_DAY;
    }

    private int defaultNow(int debt) {
        trial.begin();
        trial.failOne(debt);
        trial.makeTrue();
        town.bonds.owed[debt] = 0;
        town.gain(-trial.toTown);
        return trial.toTown;
    }

    private static boolean isCoins(int v) {
        return v >= 0 && v <= MOST_COINS;
    }

    private static boolean isUse(int use) {
        return use == ANSWERS || use == FRESH;
    }

    private static boolean isUnder(int kind, int above) {
        int k = kind;
        for (int i = 0; i < KIND_ABOVE.length && k != above && k > PERSON; i++) {
            k = KIND_ABOVE[k];
        }
        return k == above;
    }

    private static boolean isIn(int bits, int p) {
        return (bits & bit(p)) != 0;
    }

    private static int bit(int p) {
        return p < 0 ? 0 : 1 << p;
    }

    /** With its sign, as byte, short and int have one: -1 stays -1 in each width, 200 is -56 in 8 bits. */
    private static int lowestBits(int v, int bits) {
        return bits == 8 ? (byte) v : bits == 16 ? (short) v : v;
    }

    private static int held(int v, int least, int most) {
        return Math.max(least, Math.min(most, v));
    }

    private static int greaterHalf(int c) {
        return c - c / 2;
    }

    private static int sumOf(int[] row, int n) {
        int sum = 0;
        for (int i = 0; i < n && i < row.length; i++) {
            sum += row[i];
        }
        return sum;
    }

    private static void copyRows(int[][] from, int[][] to) {
        for (int i = 0; i < from.length && i < to.length; i++) {
            System.arraycopy(from[i], 0, to[i], 0, Math.min(from[i].length, to[i].length));
        }
    }

    /** All that an IMAGE keeps. */
    private static final class Town {
        final Folk folk = new Folk();
        final Bonds bonds = new Bonds();
        final Desk desk = new Desk();
        final Text answers = new Text();
        final Text fresh = new Text();
        final int[] law = new int[SISTERS + 1];
        int today = 0;
        int purse = 0;
        int z = 1;

        Town() {
            law[STEPS] = MOST_LAW[STEPS];
        }

        Text textOf(int use) {
            return use == ANSWERS ? answers : fresh;
        }

        void become(Town other) {
            folk.become(other.folk);
            bonds.become(other.bonds);
            desk.become(other.desk);
            answers.becomeText(other.answers);
            fresh.becomeText(other.fresh);
            System.arraycopy(other.law, 0, law, 0, law.length);
            today = other.today;
            purse = other.purse;
            z = other.z;
        }

        void gain(int coins) {
            purse = held(purse + coins, -MOST_OF_TOWN, MOST_OF_TOWN);
        }

        int passYear() {
            int died = 0;
            for (int p = 0; p < folk.number; p++) {
                if (folk.alive[p] == 1) {
                    folk.purse[p] = Math.min(MOST_COINS, folk.purse[p] + freshOf(p));
                    if (draw() % 10 < folk.frail[p]) {
                        bury(p);
                        died++;
                    }
                }
            }
            return died;
        }

        private int freshOf(int p) {
            if (!fresh.stands) {
                return folk.house[p] / 20;
            }
            return held(fresh.worth(folk.purse[p], folk.house[p], folk.countChildrenAlive(p), 0, 0), 0, MOST_FRESH);
        }

        private int draw() {
            z = z * 1103515245 + 12345;
            return z >>> 8;
        }

        private void bury(int p) {
            folk.alive[p] = 0;
            int heir = folk.leastChildAlive(p);
            leave(folk.purse, p, heir);
            leave(folk.house, p, heir);
        }

        private void leave(int[] row, int p, int heir) {
            int taken = heir < 0 ? 0 : Math.min(row[p], MOST_COINS - row[heir]);
            if (heir >= 0) {
                row[heir] += taken;
            }
            gain(row[p] - taken);
            row[p] = 0;
        }
    }

    /** PERSONS. */
    private static final class Folk {
        int number = 0;
        final int[][] rows = new int[IS_FRAIL + 1][MOST_PERSONS];
        final int[] kind = rows[IS_KIND];
        final int[] m = rows[IS_M];
        final int[] father = rows[IS_FATHER];
        final int[] mother = rows[IS_MOTHER];
        final int[] alive = rows[IS_ALIVE];
        final int[] purse = rows[IS_PURSE];
        final int[] house = rows[IS_HOUSE];
        final int[] frail = rows[IS_FRAIL];

        boolean has(int p) {
            return p >= 0 && p < number;
        }

        int add(int kindOf, int mOf, int purseOf, int houseOf) {
            int p = number;
            kind[p] = kindOf;
            m[p] = mOf;
            father[p] = -1;
            mother[p] = -1;
            alive[p] = 1;
            purse[p] = purseOf;
            house[p] = houseOf;
            frail[p] = 0;
            number++;
            return p;
        }

        void become(Folk other) {
            number = other.number;
            copyRows(other.rows, rows);
        }

        boolean isChild(int child, int p) {
            return father[child] == p || mother[child] == p;
        }

        int line(int p) {
            int above = bit(father[p]) | bit(mother[p]);
            for (int step = 0; step < number; step++) {
                for (int q = 0; q < number; q++) {
                    if (isIn(above, q)) {
                        above |= bit(father[q]) | bit(mother[q]);
                    }
                }
            }
            return above;
        }

        int heirs(int p) {
            int under = 0;
            for (int step = 0; step < number; step++) {
                for (int q = 0; q < number; q++) {
                    if (isChild(q, p) || isIn(under, father[q]) || isIn(under, mother[q])) {
                        under |= bit(q);
                    }
                }
            }
            return under;
        }

        int countAlive() {
            return sumOf(alive, number);
        }

        int countChildrenAlive(int p) {
            int n = 0;
            for (int q = 0; q < number; q++) {
                if (isChild(q, p)) {
                    n += alive[q];
                }
            }
            return n;
        }

        int leastChildAlive(int p) {
            for (int q = 0; q < number; q++) {
                if (alive[q] == 1 && isChild(q, p)) {
                    return q;
                }
            }
            return -1;
        }
    }

    /** DEBTS. */
    private static final class Bonds {
        int number = 0;
        final int[][] rows = new int[4][MOST_DEBTS];
        final int[] who = rows[0];
        final int[] sum = rows[1];
        final int[] due = rows[2];
        final int[] owed = rows[3];

        boolean has(int debt) {
            return debt >= 0 && debt < number;
        }

        boolean isOwed(int debt) {
            return owed[debt] == 1;
        }

        int add(int person, int sumOf, int dueOn) {
            int debt = number;
            who[debt] = person;
            sum[debt] = sumOf;
            due[debt] = dueOn;
            owed[debt] = 1;
            number++;
            return debt;
        }

        int countOwed() {
            return sumOf(owed, number);
        }

        void become(Bonds other) {
            number = other.number;
            copyRows(other.rows, rows);
        }
    }

    /** THE TAPE and the numbers that wait. */
    private static final class Desk {
        final int[] tape = new int[MOST_BYTES];
        final int[] waits = new int[MOST_WAITING];
        int bytes = 0;
        int waiting = 0;

        void addByte(int b) {
            tape[bytes] = b;
            bytes++;
        }

        void become(Desk other) {
            System.arraycopy(other.tape, 0, tape, 0, tape.length);
            System.arraycopy(other.waits, 0, waits, 0, waits.length);
            bytes = other.bytes;
            waiting = other.waiting;
        }
    }

    /** DEFAULTS on copies of all that they change, so that asking what would be changes nothing. */
    private static final class Trial {
        private final Town town;
        private final Folk folk;
        final int[] father = new int[MOST_PERSONS];
        final int[] mother = new int[MOST_PERSONS];
        final int[] alive = new int[MOST_PERSONS];
        final int[] purse = new int[MOST_PERSONS];
        final int[] house = new int[MOST_PERSONS];
        final int[] paid = new int[MOST_PERSONS];
        int toTown = 0;

        Trial(Town of) {
            town = of;
            folk = of.folk;
        }

        void begin() {
            System.arraycopy(folk.father, 0, father, 0, MOST_PERSONS);
            System.arraycopy(folk.mother, 0, mother, 0, MOST_PERSONS);
            System.arraycopy(folk.alive, 0, alive, 0, MOST_PERSONS);
            System.arraycopy(folk.purse, 0, purse, 0, MOST_PERSONS);
            System.arraycopy(folk.house, 0, house, 0, MOST_PERSONS);
            Arrays.fill(paid, 0);
            toTown = 0;
        }

        void makeTrue() {
            System.arraycopy(purse, 0, folk.purse, 0, MOST_PERSONS);
            System.arraycopy(house, 0, folk.house, 0, MOST_PERSONS);
        }

        void cutTies(int child, int p) {
            if (father[child] == p) {
                father[child] = -1;
            }
            if (mother[child] == p) {
                mother[child] = -1;
            }
        }

        void failOne(int debt) {
            int who = town.bonds.who[debt];
            int left = town.bonds.sum[debt];
            if (alive[who] == 1) {
                left -= pay(who, answer(who, left, 0));
            }
            for (int q = 0; q < folk.number; q++) {
                if (alive[q] == 1 && isAsked(q, who)) {
                    left -= pay(q, answer(q, left, 0));
                }
            }
            up(who, left, 0);
        }

        void failAllOwed() {
            for (int debt = 0; debt < town.bonds.number; debt++) {
                if (town.bonds.isOwed(debt)) {
                    failOne(debt);
                }
            }
        }

        /** Whether q is a sister of who owes and THE LAW has sisters asked. */
        boolean isAsked(int q, int who) {
            return town.law[SISTERS] == 1 && q != who && father[who] >= 0 && mother[who] >= 0
                && father[q] == father[who] && mother[q] == mother[who];
        }

        /** s stays low: nothing is handed on from STEPS (at most 9) steps. */
        private void up(int p, int c, int s) {
            if (s >= town.law[STEPS] || (father[p] < 0 && mother[p] < 0)) {
                toTown += c;
                return;
            }
            int going = town.law[HALVES] == 1 ? c / 2 : c;
            toTown += c - going;
            if (mother[p] < 0) {
                call(father[p], going, s + 1);
            } else if (father[p] < 0) {
                call(mother[p], going, s + 1);
            } else {
                call(father[p], greaterHalf(going), s + 1);
                call(mother[p], going / 2, s + 1);
            }
        }

        /** A CALL at somebody above who owes. */
        private void call(int p, int c, int s) {
            if (c == 0) {
                return;
            }
            if (alive[p] == 0) {
                up(p, c, s);
                return;
            }
            int left = c - pay(p, answer(p, c, s));
            if (folk.kind[p] == SHUT) {
                toTown += left;
            } else {
                up(p, left, s);
            }
        }

        private int answer(int p, int c, int s) {
            int m = folk.m[p];
            switch (folk.kind[p]) {
                case BOUNDED:
                    return Math.min(c, 100 * m);
                case SHUT:
                    return s > 0 ? 0 : c;
                case HALVING:
                    return s > 0 ? greaterHalf(c) : c;
                case TAKEN:
                    return s >= 2 ? 0 : Math.min(c, 100 * m);
                case OPEN:
                    return Math.min(c, (s > 0 ? greaterHalf(c) : c) + m);
                case TOLD:
                    return town.answers.stands ? held(town.answers.worth(c, purse[p], house[p], s, m), 0, c) : c;
                default:
                    return c;
            }
        }

        private int pay(int p, int a) {
            int pays = Math.min(a, purse[p] + house[p]);
            int ofPurse = Math.min(pays, purse[p]);
            purse[p] -= ofPurse;
            house[p] -= pays - ofPurse;
            paid[p] += pays;
            return pays;
        }
    }

    /** SAFE: LOST on average over who of the FRAIL is ALIVE. */
    private static final class Chances {
        private final Town town;
        private final Trial trial;
        private final int[] frail = new int[MOST_FRAIL];
        private int number = 0;
        long above = 0;
        long below = 1;

        Chances(Town of, Trial by) {
            town = of;
            trial = by;
        }

        int countFrail(int who) {
            int n = 0;
            for (int p = 0; p < town.folk.number; p++) {
                if (isFrail(p, who)) {
                    n++;
                }
            }
            return n;
        }

        void average(int debt) {
            gather(town.bonds.who[debt]);
            above = 0;
            below = 1;
            for (int i = 0; i < number; i++) {
                below *= 10;
            }
            for (int dead = 0; dead < 1 << number; dead++) {
                trial.begin();
                long chance = bury(dead);
                trial.failOne(debt);
                above += chance * trial.toTown;
            }
            long common = greatestDivisor(above, below);
            if (common > 1) {
                above /= common;
                below /= common;
            }
        }

        private boolean isFrail(int p, int who) {
            return p != who && town.folk.alive[p] == 1 && town.folk.frail[p] > 0;
        }

        /** Leaves out those whom no coin can reach: they change nothing, and each would double the work. */
        private void gather(int who) {
            int line = town.folk.line(who);
            trial.begin();
            number = 0;
            for (int p = 0; p < town.folk.number && number < MOST_FRAIL; p++) {
                if (isFrail(p, who) && (isIn(line, p) || trial.isAsked(p, who))) {
                    frail[number] = p;
                    number++;
                }
            }
        }

        /** The dead of the trial by bits; the chance of just these, in parts of below. */
        private long bury(int dead) {
            long chance = 1;
            for (int i = 0; i < number; i++) {
                int tenths = town.folk.frail[frail[i]];
                if (isIn(dead, i)) {
                    trial.alive[frail[i]] = 0;
                    chance *= tenths;
                } else {
                    chance *= 10 - tenths;
                }
            }
            return chance;
        }

        private static long greatestDivisor(long a, long b) {
            long x = a;
            long y = b;
            for (int i = 0; i < 1000 && y != 0; i++) {
                long rest = x % y;
                x = y;
                y = rest;
            }
            return x;
        }
    }

    /** A TEXT as steps: numbers (0 and up), names (below 0), operators (from OPERATOR on). */
    private static final class Text {
        static final int OPERATOR = 10000;

        boolean stands = false;
        private int length = 0;
        private final int[] code = new int[MOST_BYTES];
        private final int[] stack = new int[MOST_BYTES];
        private final int[] names = new int[5];

        void become(int[] steps, int n) {
            System.arraycopy(steps, 0, code, 0, code.length);
            length = n;
            stands = true;
        }

        void becomeText(Text other) {
            become(other.code, other.length);
            stands = other.stands;
        }

        /** What it is worth with its NAMES' values, in the order of the NAMES of its USE. */
        int worth(int first, int second, int third, int fourth, int fifth) {
            names[0] = first;
            names[1] = second;
            names[2] = third;
            names[3] = fourth;
            names[4] = fifth;
            int top = 0;
            for (int i = 0; i < length && i < code.length; i++) {
                int step = code[i];
                if (step < OPERATOR && top < stack.length && -1 - step < names.length) {
                    stack[top] = step >= 0 ? step : names[-1 - step];
                    top++;
                } else if (step == OPERATOR + '!' && top >= 1) {
                    stack[top - 1] = stack[top - 1] == 0 ? 1 : 0;
                } else if (step > OPERATOR && top >= 2) {
                    top--;
                    stack[top - 1] = join(step - OPERATOR, stack[top - 1], stack[top]);
                }
            }
            return stack[0];
        }

        private static int join(int operator, int a, int b) {
            switch (operator) {
                case '|':
                    return a != 0 || b != 0 ? 1 : 0;
                case '&':
                    return a != 0 && b != 0 ? 1 : 0;
                case '<':
                    return a < b ? 1 : 0;
                case '=':
                    return a == b ? 1 : 0;
                case '>':
                    return a > b ? 1 : 0;
                case '+':
                    return a + b;
                case '-':
                    return a - b;
                case '*':
                    return a * b;
                case '/':
                    return b == 0 ? 0 : a / b;
                case '%':
                    return b == 0 ? 0 : a % b;
                default:
                    return 0;
            }
        }
    }

    /** Reads TEXTS from THE TAPE into steps; place is the FAULT if it is none. */
    private static final class Reader {
        private static final int RANKS = 5;
        private static final int RANK_OF_ONE_ONLY = 2;

        final int[] code = new int[MOST_BYTES];
        int length = 0;
        int place = 0;
        private final int[] tape = new int[MOST_BYTES];
        private int bytes = 0;
        private String names = NAMES_OF_ANSWERS;

        boolean reads(int[] from, int n, String namesOfUse) {
            System.arraycopy(from, 0, tape, 0, tape.length);
            bytes = n;
            names = namesOfUse;
            length = 0;
            place = 0;
            return readRank(0, 0) && place == bytes;
        }

        /** T, A, B, S, P by ranks 0 to 4, Q behind them; open counts ! and ( that stand open. */
        private boolean readRank(int rank, int open) {
            if (rank >= RANKS) {
                return readUnit(open);
            }
            if (!readRank(rank + 1, open)) {
                return false;
            }
            for (int i = 0; i < MOST_BYTES && rankOf(next()) == rank; i++) {
                int operator = next();
                place++;
                if (!readRank(rank + 1, open)) {
                    return false;
                }
                addStep(Text.OPERATOR + operator);
                if (rank == RANK_OF_ONE_ONLY) {
                    return true;
                }
            }
            return true;
        }

        private boolean readUnit(int open) {
            int b = next();
            if (isDigit(b)) {
                readNumber();
                return true;
            }
            if (b == '!' || b == '(') {
                return open < MOST_OPEN && readOpened(b, open + 1);
            }
            int name = b < 0 ? -1 : names.indexOf((char) b);
            if (name < 0) {
                return false;
            }
            place++;
            addStep(-1 - name);
            return true;
        }

        private boolean readOpened(int opener, int open) {
            place++;
            if (opener == '!') {
                if (!readUnit(open)) {
                    return false;
                }
                addStep(Text.OPERATOR + '!');
                return true;
            }
            if (!readRank(0, open) || next() != ')') {
                return false;
            }
            place++;
            return true;
        }

        private void readNumber() {
            int value = 0;
            for (int i = 0; i < 4 && isDigit(next()); i++) {
                value = value * 10 + next() - '0';
                place++;
            }
            addStep(value);
        }

        private void addStep(int step) {
            if (length < code.length) {
                code[length] = step;
                length++;
            }
        }

        /** -1 behind the last byte: no byte is below 0. */
        private int next() {
            return place < bytes ? tape[place] : -1;
        }

        private static boolean isDigit(int b) {
            return b >= '0' && b <= '9';
        }

        private static int rankOf(int b) {
            switch (b) {
                case '|':
                    return 0;
                case '&':
                    return 1;
                case '<':
                case '=':
                case '>':
                    return RANK_OF_ONE_ONLY;
                case '+':
                case '-':
                    return 3;
                case '*':
                case '/':
                case '%':
                    return 4;
                default:
                    return -1;
            }
        }
    }

    /** VOICES of the PERSON who spoke last, and THE TRACE. */
    private static final class Voices {
        final int[] trace = new int[MOST_TRACED];
        int traced = 0;
        boolean parted = false;
        private int kind = PERSON;
        private int k = 0;
        private int m = 0;

        int speak(int kindOf, int number, int mOf, int voice, int x) {
            kind = kindOf;
            k = number;
            m = mOf;
            traced = 0;
            parted = false;
            return say(kindOf, voice, x, 0);
        }

        private int say(int from, int voice, int x, int depth) {
            int owner = from;
            for (int i = 0; i < KIND_ABOVE.length && owner > PERSON && BODIES[owner * VOICES + voice] == 0; i++) {
                owner = KIND_ABOVE[owner];
            }
            if (owner < PERSON || depth > MOST_TRACED) {
                return 0;
            }
            int number = BODIES[owner * VOICES + voice];
            if (traced < trace.length) {
                trace[traced] = number;
                traced++;
            }
            return work(number, KIND_ABOVE[owner], x, depth + 1);
        }

        private int work(int number, int above, int x, int depth) {
            switch (number) {
                case 10:
                    return x + k;
                case 11:
                    return say(kind, OWES, x, depth) * 2;
                case 12:
                    return say(kind, PAYS, x, depth) - m;
                case 13:
                    return part(x);
                case 20:
                    return say(above, OWES, x, depth) - 6;
                case 21:
                    int left = say(above, LEAVES, x, depth);
                    return parted ? 0 : left + say(kind, PAYS, 1, depth);
                case 30:
                    return 0 - say(above, PAYS, x, depth);
                case 40:
                    return say(above, ASKS, x / 2, depth);
                case 50:
                    return say(above, OWES, x, depth) * 3;
                case 51:
                    return say(above, ASKS, x, depth) ^ k;
                case 60:
                    return say(above, PAYS, x + 1, depth);
                case 70:
                    return 7;
                case 71:
                    return say(above, PAYS, x, depth) + m;
                default:
                    return 0;
            }
        }

        private int part(int x) {
            if (m == k) {
                parted = true;
                return 0;
            }
            return x / (m - k);
        }
    }

    /** SHEETS; bits 0 are a missing one's. */
    private static final class Sheets {
        final int[] bits = new int[MOST_SHEETS];
        final int[] length = new int[MOST_SHEETS];
        final int[][] numbers = new int[MOST_SHEETS][MOST_NUMBERS];

        boolean has(int sheet) {
            return sheet >= 0 && sheet < MOST_SHEETS;
        }

        boolean isMissing(int sheet) {
            return bits[sheet] == 0;
        }

        void lay(int sheet, int bitsOf, int n) {
            bits[sheet] = bitsOf;
            length[sheet] = n;
            Arrays.fill(numbers[sheet], 0);
        }

        boolean holds(int sheet, int i, int n) {
            return n >= 0 && i >= 0 && n <= length[sheet] && i <= length[sheet] - n;
        }
    }
}
