import java.math.BigInteger;
import java.util.ArrayList;
import java.util.HashMap;
import java.util.List;
import java.util.Map;
import java.util.TreeSet;

/**
 * The document said a second time, in another way: objects, lists, exceptions, whole copies of the world
 * for what would be, fractions without bounds, a reader that tries all ways. ModelTest compares the two.
 */
public final class Model {
    /** An ERROR on its way out of a call. */
    private static final class Wrong extends RuntimeException {
        private static final long serialVersionUID = 1L;
        final int k;

        Wrong(int k) {
            super(null, null, false, false);
            this.k = k;
        }
    }

    private static final class One {
        int number;
        int kind;
        int m;
        One father;
        One mother;
        boolean alive = true;
        int purse;
        int house;
        int frail;
        int pays;
    }

    private static final class Bond {
        One who;
        int sum;
        int due;
        boolean owed = true;
    }

    private static final class World {
        final List<One> ones = new ArrayList<>();
        final List<Bond> bonds = new ArrayList<>();
        int today = 0;
        int town = 0;
        int z = 1;
        int steps = 9;
        boolean halves = false;
        boolean sisters = false;
        StringBuilder tape = new StringBuilder();
        String[] texts = new String[2];
        List<Integer> waits = new ArrayList<>();
        int came = 0;

        World copy() {
            World w = new World();
            for (One p : ones) {
                One q = new One();
                q.number = p.number;
                q.kind = p.kind;
                q.m = p.m;
                q.alive = p.alive;
                q.purse = p.purse;
                q.house = p.house;
                q.frail = p.frail;
                w.ones.add(q);
            }
            for (One p : ones) {
                w.ones.get(p.number).father = p.father == null ? null : w.ones.get(p.father.number);
                w.ones.get(p.number).mother = p.mother == null ? null : w.ones.get(p.mother.number);
            }
            for (Bond d : bonds) {
                Bond e = new Bond();
                e.who = w.ones.get(d.who.number);
                e.sum = d.sum;
                e.due = d.due;
                e.owed = d.owed;
                w.bonds.add(e);
            }
            w.today = today;
            w.town = town;
            w.z = z;
            w.steps = steps;
            w.halves = halves;
            w.sisters = sisters;
            w.tape = new StringBuilder(tape);
            w.texts = texts.clone();
            w.waits = new ArrayList<>(waits);
            return w;
        }

        List<One> children(One p) {
            List<One> all = new ArrayList<>();
            for (One q : ones) {
                if (q.father == p || q.mother == p) {
                    all.add(q);
                }
            }
            return all;
        }

        void toTown(int c) {
            came += c;
            town = Math.max(-999999, town - c);
        }

        void gains(int c) {
            town = Math.min(999999, town + c);
        }

        int answers(One p, int c, int s) {
            long a = c;
            switch (p.kind) {
                case 1 -> a = Math.min(c, 100L * p.m);
                case 2 -> a = s > 0 ? 0 : c;
                case 3 -> a = s > 0 ? (c + 1) / 2 : c;
                case 4 -> a = s >= 2 ? 0 : Math.min(c, 100L * p.m);
                case 5 -> a = (s > 0 ? (c + 1) / 2 : c) + p.m;
                case 6 -> {
                    if (texts[0] != null) {
                        a = new Tongue(texts[0], "cphsm").worth(Map.of(
                            'c', c, 'p', p.purse, 'h', p.house, 's', s, 'm', p.m));
                    }
                }
                default -> { }
            }
            return (int) Math.max(0, Math.min(c, a));
        }

        int pays(One p, int c, int s) {
            int a = Math.min(answers(p, c, s), p.purse + p.house);
            p.pays += a;
            p.purse -= a;
            if (p.purse < 0) {
                p.house += p.purse;
                p.purse = 0;
            }
            return a;
        }

        void called(One p, int c, int s) {
            if (!p.alive) {
                up(p, c, s);
                return;
            }
            int rest = c - pays(p, c, s);
            if (p.kind == 2 && s > 0) {
                toTown(rest);
            } else {
                up(p, rest, s);
            }
        }

        void up(One p, int c, int s) {
            if (s >= steps) {
                toTown(c);
                return;
            }
            int rest = c;
            if (sisters && s == 0 && p.father != null && p.mother != null) {
                for (One q : ones) {
                    if (q != p && q.alive && q.father == p.father && q.mother == p.mother) {
                        rest -= pays(q, rest, 0);
                    }
                }
            }
            if (p.father == null && p.mother == null) {
                toTown(rest);
                return;
            }
            if (halves) {
                toTown(rest - rest / 2);
                rest = rest / 2;
            }
            if (p.father == null) {
                called(p.mother, rest, s + 1);
            } else if (p.mother == null) {
                called(p.father, rest, s + 1);
            } else {
                called(p.father, (rest + 1) / 2, s + 1);
                called(p.mother, rest / 2, s + 1);
            }
        }

        int fail(Bond d) {
            int before = came;
            called(d.who, d.sum, 0);
            d.owed = false;
            return came - before;
        }

        void failAll() {
            for (Bond d : bonds) {
                if (d.owed) {
                    fail(d);
                }
            }
        }

        void day() {
            for (Bond d : bonds) {
                if (d.owed && d.due <= today) {
                    fail(d);
                }
            }
            today++;
        }

        int year() {
            int died = 0;
            for (One p : ones) {
                if (!p.alive) {
                    continue;
                }
                int n = 0;
                for (One q : children(p)) {
                    n += q.alive ? 1 : 0;
                }
                int more = p.house / 20;
                if (texts[1] != null) {
                    more = new Tongue(texts[1], "phn").worth(Map.of('p', p.purse, 'h', p.house, 'n', n));
                    more = Math.max(0, Math.min(9999, more));
                }
                p.purse = Math.min(99999, p.purse + more);
                z = z * 1103515245 + 12345;
                if ((z >>> 8) % 10 < p.frail) {
                    died++;
                    p.alive = false;
                    One heir = null;
                    for (One q : children(p)) {
                        if (q.alive && heir == null) {
                            heir = q;
                        }
                    }
                    for (; p.purse > 0; p.purse--) {
                        if (heir != null && heir.purse < 99999) {
                            heir.purse++;
                        } else {
                            gains(1);
                        }
                    }
                    for (; p.house > 0; p.house--) {
                        if (heir != null && heir.house < 99999) {
                            heir.house++;
                        } else {
                            gains(1);
                        }
                    }
                }
            }
            return died;
        }

        boolean isAbove(One above, One p) {
            return p != null && (p.father == above && above != null || p.mother == above && above != null
                || isAbove(above, p.father) || isAbove(above, p.mother));
        }
    }

    /** Reads by trying all ways; each rule gives all places where it can end. */
    private static final class Tongue {
        final String text;
        final String names;
        int furthest = 0;
        final Map<String, TreeSet<Integer>> ends = new HashMap<>();
        int at;
        Map<Character, Integer> values;

        Tongue(String text, String names) {
            this.text = text;
            this.names = names;
        }

        int fault() {
            TreeSet<Integer> all = rule(0, 0, 0);
            return all.contains(text.length()) ? -1 : furthest;
        }

        boolean is(int i, String signs) {
            furthest = Math.max(furthest, i);
            return i < text.length() && signs.indexOf(text.charAt(i)) >= 0;
        }

        TreeSet<Integer> rule(int rank, int i, int open) {
            String key = rank + " " + i + " " + open;
            if (ends.containsKey(key)) {
                return ends.get(key);
            }
            TreeSet<Integer> all = new TreeSet<>();
            if (rank == 5) {
                unit(i, open, all);
            } else {
                String[] signs = {"|", "&", "<=>", "+-", "*/%"};
                TreeSet<Integer> open1 = new TreeSet<>(rule(rank + 1, i, open));
                int rounds = 0;
                while (!open1.isEmpty()) {
                    all.addAll(open1);
                    TreeSet<Integer> next = new TreeSet<>();
                    for (int e : open1) {
                        if ((rank != 2 || rounds == 0) && is(e, signs[rank])) {
                            next.addAll(rule(rank + 1, e + 1, open));
                        }
                    }
                    open1 = next;
                    rounds++;
                }
            }
            ends.put(key, all);
            return all;
        }

        void unit(int i, int open, TreeSet<Integer> all) {
            for (int n = 0; n < 4 && is(i + n, "0123456789"); n++) {
                all.add(i + n + 1);
            }
            if (is(i, names)) {
                all.add(i + 1);
            }
            if (open < 5 && is(i, "!")) {
                all.addAll(rule(5, i + 1, open + 1));
            }
            if (open < 5 && is(i, "(")) {
                for (int e : rule(0, i + 1, open + 1)) {
                    if (is(e, ")")) {
                        all.add(e + 1);
                    }
                }
            }
        }

        int worth(Map<Character, Integer> of) {
            values = of;
            at = 0;
            return either();
        }

        char here() {
            return at < text.length() ? text.charAt(at) : ' ';
        }

        int either() {
            int v = both();
            while (here() == '|') {
                at++;
                int w = both();
                v = v != 0 || w != 0 ? 1 : 0;
            }
            return v;
        }

        int both() {
            int v = compared();
            while (here() == '&') {
                at++;
                int w = compared();
                v = v != 0 && w != 0 ? 1 : 0;
            }
            return v;
        }

        int compared() {
            int v = sum();
            char c = here();
            if (c != '<' && c != '=' && c != '>') {
                return v;
            }
            at++;
            int w = sum();
            return (c == '<' ? v < w : c == '=' ? v == w : v > w) ? 1 : 0;
        }

        int sum() {
            int v = product();
            while (here() == '+' || here() == '-') {
                char c = here();
                at++;
                int w = product();
                v = c == '+' ? v + w : v - w;
            }
            return v;
        }

        int product() {
            int v = small();
            while (here() == '*' || here() == '/' || here() == '%') {
                char c = here();
                at++;
                int w = small();
                v = c == '*' ? v * w : w == 0 ? 0 : c == '/' ? v / w : v % w;
            }
            return v;
        }

        int small() {
            char c = here();
            at++;
            if (c == '!') {
                return small() == 0 ? 1 : 0;
            }
            if (c == '(') {
                int v = either();
                at++;
                return v;
            }
            if (values.containsKey(c)) {
                return values.get(c);
            }
            int v = c - '0';
            while (Character.isDigit(here())) {
                v = v * 10 + here() - '0';
                at++;
            }
            return v;
        }
    }

    private static class Voice {
        int k;
        int m;
        List<Integer> trace;

        int owes(int x) {
            trace.add(10);
            return x + k;
        }

        int pays(int x) {
            trace.add(11);
            return owes(x) * 2;
        }

        int asks(int x) {
            trace.add(12);
            return pays(x) - m;
        }

        int leaves(int x) {
            trace.add(13);
            if (m == k) {
                throw new Wrong(6);
            }
            return x / (m - k);
        }
    }

    private static class BoundedVoice extends Voice {
        @Override
        int owes(int x) {
            trace.add(20);
            return super.owes(x) - 6;
        }

        @Override
        int leaves(int x) {
            trace.add(21);
            return super.leaves(x) + pays(1);
        }
    }

    private static final class ShutVoice extends Voice {
        @Override
        int pays(int x) {
            trace.add(30);
            return 0 - super.pays(x);
        }
    }

    private static class HalvingVoice extends Voice {
        @Override
        int asks(int x) {
            trace.add(40);
            return super.asks(x / 2);
        }
    }

    private static final class TakenVoice extends BoundedVoice {
        @Override
        int owes(int x) {
            trace.add(50);
            return super.owes(x) * 3;
        }

        @Override
        int asks(int x) {
            trace.add(51);
            return super.asks(x) ^ k;
        }
    }

    private static final class OpenVoice extends HalvingVoice {
        @Override
        int pays(int x) {
            trace.add(60);
            return super.pays(x + 1);
        }
    }

    private static final class ToldVoice extends Voice {
        @Override
        int owes(int x) {
            trace.add(70);
            return 7;
        }

        @Override
        int pays(int x) {
            trace.add(71);
            return super.pays(x) + m;
        }
    }

    private World now = new World();
    private World kept = null;
    private int images = 0;
    private final int[] counted = new int[7];
    private List<Integer> trace = new ArrayList<>();
    private final long[][] sheets = new long[4][];
    private final int[] sheetBits = new int[4];

    private interface Act {
        long answer();
    }

    private long act(Act a) {
        try {
            return a.answer();
        } catch (Wrong w) {
            counted[w.k]++;
            return -1000000000L - w.k;
        }
    }

    private static void need(boolean is, int k) {
        if (!is) {
            throw new Wrong(k);
        }
    }

    private static boolean in(int v, int least, int most) {
        return v >= least && v <= most;
    }

    private One one(int p) {
        need(in(p, 0, now.ones.size() - 1), 1);
        return now.ones.get(p);
    }

    private Bond bond(int d) {
        need(in(d, 0, now.bonds.size() - 1), 1);
        return now.bonds.get(d);
    }

    private World after(int debt) {
        World w = now.copy();
        w.fail(w.bonds.get(debt));
        return w;
    }

    private World afterAll() {
        World w = now.copy();
        w.failAll();
        return w;
    }

    public long person(int km, int purse, int house) {
        return act(() -> {
            need(in(km, 0, 699) && in(purse, 0, 99999) && in(house, 0, 99999), 1);
            need(now.ones.size() < 12, 4);
            One p = new One();
            p.number = now.ones.size();
            p.kind = km / 100;
            p.m = km % 100;
            p.purse = purse;
            p.house = house;
            now.ones.add(p);
            return p.number;
        });
    }

    public long personIs(int person, int what) {
        return act(() -> {
            One p = one(person);
            need(in(what, 0, 9), 1);
            long line = 0;
            long heirs = 0;
            for (One q : now.ones) {
                line += now.isAbove(q, p) ? 1L << q.number : 0;
                heirs += now.isAbove(p, q) ? 1L << q.number : 0;
            }
            return switch (what) {
                case 0 -> p.kind;
                case 1 -> p.m;
                case 2 -> p.father == null ? -1 : p.father.number;
                case 3 -> p.mother == null ? -1 : p.mother.number;
                case 4 -> p.alive ? 1 : 0;
                case 5 -> p.purse;
                case 6 -> p.house;
                case 7 -> p.frail;
                case 8 -> line;
                default -> heirs;
            };
        });
    }

    public long as(int person, int kind) {
        return act(() -> {
            One p = one(person);
            need(in(kind, 0, 6), 1);
            boolean is = kind == p.kind || kind == 0 || kind == 1 && p.kind == 4 || kind == 3 && p.kind == 5;
            need(is, 5);
            return p.m;
        });
    }

    public long set(int person, int what, int v) {
        return act(() -> {
            One p = one(person);
            int was = 0;
            switch (what) {
                case 0 -> {
                    need(in(v, 0, 6), 1);
                    was = p.kind;
                    p.kind = v;
                }
                case 1 -> {
                    need(in(v, 0, 99), 1);
                    was = p.m;
                    p.m = v;
                }
                case 4 -> {
                    need(in(v, 0, 1), 1);
                    was = p.alive ? 1 : 0;
                    p.alive = v == 1;
                }
                case 5 -> {
                    need(in(v, 0, 99999), 1);
                    was = p.purse;
                    p.purse = v;
                }
                case 6 -> {
                    need(in(v, 0, 99999), 1);
                    was = p.house;
                    p.house = v;
                }
                case 7 -> {
                    need(in(v, 0, 9), 1);
                    was = p.frail;
                    p.frail = v;
                }
                default -> need(false, 1);
            }
            return was;
        });
    }

    public long parent(int person, int what, int other) {
        return act(() -> {
            One p = one(person);
            need(in(what, 0, 1), 1);
            One o = other == -1 ? null : one(other);
            if (o != null) {
                need(o != p && !now.isAbove(p, o) && o != (what == 0 ? p.mother : p.father), 3);
            }
            One was = what == 0 ? p.father : p.mother;
            if (what == 0) {
                p.father = o;
            } else {
                p.mother = o;
            }
            return was == null ? -1 : was.number;
        });
    }

    public long rule(int what, int v) {
        return act(() -> {
            need(in(what, 0, 2) && (what == 0 ? in(v, 1, 9) : in(v, 0, 1)), 1);
            long was;
            if (what == 0) {
                was = now.steps;
                now.steps = v;
            } else if (what == 1) {
                was = now.halves ? 1 : 0;
                now.halves = v == 1;
            } else {
                was = now.sisters ? 1 : 0;
                now.sisters = v == 1;
            }
            return was;
        });
    }

    public long debt(int person, int sum, int due) {
        return act(() -> {
            One p = one(person);
            need(in(sum, 1, 99999) && in(due, 0, 9999), 1);
            need(now.bonds.size() < 10, 4);
            Bond d = new Bond();
            d.who = p;
            d.sum = sum;
            d.due = due;
            now.bonds.add(d);
            return now.bonds.size() - 1;
        });
    }

    public long debtIs(int debt, int what) {
        return act(() -> {
            Bond d = bond(debt);
            need(in(what, 0, 3), 1);
            return what == 0 ? d.who.number : what == 1 ? d.sum : what == 2 ? d.due : d.owed ? 1 : 0;
        });
    }

    public long fails(int debt) {
        return act(() -> {
            need(bond(debt).owed, 3);
            return now.fail(bond(debt));
        });
    }

    public long settle(int debt) {
        return act(() -> {
            Bond d = bond(debt);
            need(d.owed && d.who.alive && d.who.purse + d.who.house >= d.sum, 3);
            d.who.purse -= d.sum;
            if (d.who.purse < 0) {
                d.who.house += d.who.purse;
                d.who.purse = 0;
            }
            d.owed = false;
            return d.who.purse + d.who.house;
        });
    }

    public long days(int n) {
        return act(() -> {
            need(in(n, 1, 60), 1);
            need(now.today + n <= 9999, 3);
            for (int i = 0; i < n; i++) {
                now.day();
            }
            return now.today;
        });
    }

    public long years(int n) {
        return act(() -> {
            need(in(n, 1, 20), 1);
            int died = 0;
            for (int i = 0; i < n; i++) {
                died += now.year();
            }
            return died;
        });
    }

    public long seed(int v) {
        long was = now.z;
        now.z = v;
        return was;
    }

    public long feed(long word, int n) {
        return act(() -> {
            need(in(n, 1, 8), 1);
            need(now.tape.length() + n <= 60, 4);
            long w = word;
            for (int i = 0; i < n; i++) {
                now.tape.append((char) (w & 255));
                w >>= 8;
            }
            return now.tape.length();
        });
    }

    public long text(int use) {
        return act(() -> {
            need(in(use, 0, 1), 1);
            String t = now.tape.toString();
            now.tape = new StringBuilder();
            int fault = new Tongue(t, use == 0 ? "cphsm" : "phn").fault();
            if (fault >= 0) {
                return -10 - fault;
            }
            now.texts[use] = t;
            return 1;
        });
    }

    public long untell(int use) {
        return act(() -> {
            need(in(use, 0, 1), 1);
            boolean was = now.texts[use] != null;
            now.texts[use] = null;
            return was ? 1 : 0;
        });
    }

    public long called(int debt, int person) {
        return act(() -> {
            bond(debt);
            one(person);
            need(bond(debt).owed, 3);
            return after(debt).ones.get(person).pays;
        });
    }

    public long lost(int debt) {
        return act(() -> {
            need(bond(debt).owed, 3);
            return after(debt).came;
        });
    }

    public long bespoke(int person) {
        return act(() -> {
            one(person);
            return afterAll().ones.get(person).pays;
        });
    }

    public long safe(int debt, int part) {
        return act(() -> {
            Bond d = bond(debt);
            need(in(part, 0, 1), 1);
            need(d.owed, 3);
            List<Integer> frail = new ArrayList<>();
            for (One p : now.ones) {
                if (p.alive && p != d.who && p.frail > 0) {
                    frail.add(p.number);
                }
            }
            need(frail.size() <= 9, 3);
            BigInteger above = average(now, debt, frail, 0);
            BigInteger below = BigInteger.TEN.pow(frail.size());
            BigInteger common = above.gcd(below);
            return (part == 0 ? above : below).divide(common).longValueExact();
        });
    }

    private BigInteger average(World w, int debt, List<Integer> frail, int i) {
        if (i == frail.size()) {
            World then = w.copy();
            then.fail(then.bonds.get(debt));
            return BigInteger.valueOf(then.came);
        }
        World without = w.copy();
        One p = without.ones.get(frail.get(i));
        p.alive = false;
        BigInteger dead = average(without, debt, frail, i + 1).multiply(BigInteger.valueOf(p.frail));
        return average(w, debt, frail, i + 1).multiply(BigInteger.valueOf(10 - p.frail)).add(dead);
    }

    public long disown(int person) {
        return act(() -> {
            int best = -1;
            int least = Integer.MAX_VALUE;
            for (One c : now.children(one(person))) {
                World w = now.copy();
                One q = w.ones.get(c.number);
                One p = w.ones.get(person);
                q.father = q.father == p ? null : q.father;
                q.mother = q.mother == p ? null : q.mother;
                w.failAll();
                if (p.pays < least) {
                    least = p.pays;
                    best = c.number;
                }
            }
            need(best >= 0, 2);
            return best;
        });
    }

    public long adopt(int debt) {
        return act(() -> {
            Bond d = bond(debt);
            need(d.owed && d.who.father == null, 3);
            int best = -1;
            int least = Integer.MAX_VALUE;
            for (One o : now.ones) {
                if (o == d.who || o == d.who.mother || now.isAbove(d.who, o)) {
                    continue;
                }
                World w = now.copy();
                w.ones.get(d.who.number).father = w.ones.get(o.number);
                w.fail(w.bonds.get(debt));
                if (w.came < least) {
                    least = w.came;
                    best = o.number;
                }
            }
            need(best >= 0, 2);
            return best;
        });
    }

    public long needs() {
        return afterAll().came;
    }

    public long voice(int person, int voice, int x) {
        return act(() -> {
            One p = one(person);
            need(in(voice, 0, 3), 1);
            Voice v = switch (p.kind) {
                case 1 -> new BoundedVoice();
                case 2 -> new ShutVoice();
                case 3 -> new HalvingVoice();
                case 4 -> new TakenVoice();
                case 5 -> new OpenVoice();
                case 6 -> new ToldVoice();
                default -> new Voice();
            };
            v.k = person;
            v.m = p.m;
            v.trace = new ArrayList<>();
            trace = v.trace;
            return voice == 0 ? v.owes(x) : voice == 1 ? v.pays(x) : voice == 2 ? v.asks(x) : v.leaves(x);
        });
    }

    public long body(int i) {
        return act(() -> {
            need(in(i, 0, Math.min(30, trace.size()) - 1), 2);
            return trace.get(i);
        });
    }

    public long sheet(int sheet, int bits, int n) {
        return act(() -> {
            need(in(sheet, 0, 3) && (bits == 0 || bits == 8 || bits == 16 || bits == 32), 1);
            if (bits == 0) {
                sheets[sheet] = null;
                return 1;
            }
            need(n >= 0, 3);
            need(n <= 24, 1);
            sheets[sheet] = new long[n];
            sheetBits[sheet] = bits;
            return 1;
        });
    }

    private long[] sheetOf(int sheet) {
        need(in(sheet, 0, 3), 1);
        need(sheets[sheet] != null, 2);
        return sheets[sheet];
    }

    public long put(int sheet, int i, int v) {
        return act(() -> {
            long[] row = sheetOf(sheet);
            need(in(i, 0, row.length - 1), 1);
            long all = 1L << sheetBits[sheet];
            long rest = Math.floorMod((long) v, all);
            row[i] = rest >= all / 2 ? rest - all : rest;
            return 1;
        });
    }

    public long move(int sheet, int i, int other, int j, int n) {
        return act(() -> {
            need(in(sheet, 0, 3) && in(other, 0, 3), 1);
            long[] from = sheetOf(sheet);
            long[] to = sheetOf(other);
            need(sheetBits[sheet] == sheetBits[other], 5);
            need(n >= 0 && i >= 0 && j >= 0, 1);
            need((long) i + n <= from.length && (long) j + n <= to.length, 1);
            long[] were = from.clone();
            for (int at = 0; at < n; at++) {
                to[j + at] = were[i + at];
            }
            return n;
        });
    }

    public long debts(int sheet) {
        return act(() -> {
            long[] row = sheetOf(sheet);
            int came = 0;
            int[] before = counted.clone();
            for (int i = 0; i + 3 <= row.length; i += 3) {
                if (debt((int) row[i], (int) row[i + 1], (int) row[i + 2]) < -1000000000) {
                    break;
                }
                came++;
            }
            System.arraycopy(before, 0, counted, 0, 7);
            return came;
        });
    }

    public long judge(int sheet, int debt) {
        return act(() -> {
            need(in(sheet, 0, 3), 1);
            bond(debt);
            long[] row = sheetOf(sheet);
            need(bond(debt).owed, 3);
            World w = after(debt);
            for (One p : w.ones) {
                if (p.number >= row.length || row[p.number] != p.purse) {
                    return p.number;
                }
            }
            return w.ones.size();
        });
    }

    public long image() {
        kept = now.copy();
        images++;
        return images;
    }

    public long restore() {
        return act(() -> {
            need(kept != null, 2);
            now = kept.copy();
            return now.today;
        });
    }

    public long tell(int v) {
        return act(() -> {
            need(now.waits.size() < 24, 4);
            now.waits.add(v);
            return now.waits.size();
        });
    }

    public long check(int debt) {
        return act(() -> {
            List<Integer> said = now.waits;
            now.waits = new ArrayList<>();
            need(bond(debt).owed, 3);
            List<Integer> right = new ArrayList<>();
            for (One p : after(debt).ones) {
                if (p.pays > 0) {
                    right.add(p.number);
                }
            }
            if (said.equals(right)) {
                return 0;
            }
            int i = 0;
            while (i < said.size() && i < right.size() && said.get(i).equals(right.get(i))) {
                i++;
            }
            return 1 + i;
        });
    }

    public long count(int what) {
        return act(() -> {
            need(in(what, 0, 9), 1);
            return switch (what) {
                case 0 -> now.ones.size();
                case 1 -> now.ones.stream().filter(p -> p.alive).count();
                case 2 -> now.bonds.size();
                case 3 -> now.bonds.stream().filter(d -> d.owed).count();
                case 4 -> now.today;
                case 5 -> now.town;
                case 6 -> now.tape.length();
                case 7 -> now.waits.size();
                case 8 -> Math.min(30, trace.size());
                default -> now.z;
            };
        });
    }

    public long told(int k) {
        return act(() -> {
            need(in(k, 1, 6), 1);
            return counted[k];
        });
    }
}
