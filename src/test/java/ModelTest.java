import java.lang.reflect.Method;
import java.util.ArrayList;
import java.util.Arrays;
import java.util.HashMap;
import java.util.List;
import java.util.Map;
import java.util.Random;

/** Random runs of up to 512 calls: FathersPay and Model have to answer the same. The seeds are fixed. */
public final class ModelTest {
    private static final int RUNS = 1500;
    private static final int CALLS = 512;
    private static final int[] EDGES = {Integer.MIN_VALUE, -1000000001, -2, -1, 0, 1, 2, 3, 9, 10, 11, 12, 24, 25, 60, 61,
        99, 100, 255, 256, 699, 700, 9999, 10000, 65535, 65536, 99999, 100000, 1000000, Integer.MAX_VALUE};
    private static final String[] OFTEN = {"person", "parent", "debt", "set", "rule", "called", "lost", "bespoke", "safe",
        "disown", "adopt", "needs", "voice", "body", "years", "judge", "check", "tell", "count", "put", "personIs", "fails"};

    private final Random random;
    private final FathersPay real = new FathersPay();
    private final Model model = new Model();
    private final List<String> calls = new ArrayList<>();
    private long answer = 0;
    private static final Map<String, Method> REAL = new HashMap<>();
    private static final Map<String, Method> MODEL = new HashMap<>();
    private static final Map<String, Integer> GOOD = new HashMap<>();

    private ModelTest(long seed) {
        random = new Random(seed);
    }

    public static void main(String[] args) throws Exception {
        for (Method m : FathersPay.class.getDeclaredMethods()) {
            if (java.lang.reflect.Modifier.isPublic(m.getModifiers())) {
                REAL.put(m.getName(), m);
                MODEL.put(m.getName(), Model.class.getMethod(m.getName(), m.getParameterTypes()));
            }
        }
        int wrong = 0;
        for (int run = 0; run < RUNS && wrong < 5; run++) {
            ModelTest test = new ModelTest(run);
            if (!test.goesWell()) {
                wrong++;
                System.out.println("run " + run + ": .. " + (test.calls.size() - 1) + " calls, then "
                    + test.calls.get(test.calls.size() - 1));
            }
        }
        for (String name : REAL.keySet()) {
            if (GOOD.getOrDefault(name, 0) < 50) {
                wrong++;
                System.out.println("asked too seldom for an answer without ERROR: " + name);
            }
        }
        System.out.println(RUNS + " runs of " + CALLS + " calls, " + wrong + " not as due");
        if (wrong != 0) {
            System.exit(1);
        }
    }

    private boolean goesWell() throws Exception {
        List<String> names = new ArrayList<>(REAL.keySet());
        names.sort(null);
        names.addAll(Arrays.asList(OFTEN));
        int style = random.nextInt(4);
        boolean same = true;
        if (style > 0) {
            same = settlesIn(3 + random.nextInt(10));
        }
        while (same && calls.size() < CALLS) {
            String name = names.get(random.nextInt(names.size()));
            if (name.equals("text")) {
                same = tellsText();
            } else if (name.equals("judge") && random.nextInt(2) == 0) {
                same = judgesWell();
            } else if (name.equals("check") && random.nextInt(2) == 0) {
                same = checksWell();
            } else if (name.equals("days") && random.nextInt(3) > 0) {
                same = call(name, 1 + random.nextInt(3));
            } else if ((name.equals("fails") || name.equals("restore") || name.equals("settle")) && random.nextInt(3) > 0) {
                same = call("count", 5);
            } else {
                same = call(name, argumentsOf(name));
            }
        }
        for (int k = 1; k <= 6 && same; k++) {
            same = call("told", k);
        }
        return same;
    }

    private boolean settlesIn(int persons) throws Exception {
        boolean same = true;
        int rich = random.nextInt(3) == 0 ? 99999 : 300;
        for (int i = 0; i < persons && same; i++) {
            same = call("person", random.nextInt(700), random.nextInt(rich + 1), random.nextInt(rich + 1));
        }
        for (int i = 0; i < persons * 3 && same; i++) {
            same = call("parent", random.nextInt(persons), random.nextInt(2), random.nextInt(persons));
        }
        for (int i = 0; i < 4 && same; i++) {
            same = call("debt", random.nextInt(persons), 1 + random.nextInt(rich * 2 > 99999 ? 99999 : rich * 4),
                random.nextInt(20));
        }
        if (random.nextInt(2) == 0) {
            for (int i = 0; i < persons && same; i++) {
                same = call("set", i, 7, random.nextInt(3) == 0 ? 0 : random.nextInt(10));
            }
        }
        return same;
    }

    private Object[] argumentsOf(String name) {
        Class<?>[] types = REAL.get(name).getParameterTypes();
        Object[] all = new Object[types.length];
        for (int i = 0; i < all.length; i++) {
            if (types[i] == long.class) {
                all[i] = random.nextLong();
            } else {
                all[i] = random.nextInt(25) == 0 ? EDGES[random.nextInt(EDGES.length)] : plain(name, i, all);
            }
        }
        return all;
    }

    private int plain(String name, int i, Object[] ahead) {
        String at = name + i;
        switch (at) {
            case "person0":
                return random.nextInt(700);
            case "person1": case "person2":
                return random.nextInt(random.nextInt(4) == 0 ? 100000 : 400);
            case "personIs1": case "count0":
                return random.nextInt(10);
            case "set1":
                return random.nextInt(8);
            case "set2":
                int what = (Integer) ahead[1];
                return random.nextInt(what == 0 ? 7 : what == 1 ? 100 : what == 4 ? 2 : what == 7 ? 10
                    : random.nextInt(3) == 0 ? 100000 : 500);
            case "as1":
                return random.nextInt(7);
            case "parent1": case "untell0": case "safe1":
                return random.nextInt(2);
            case "parent2":
                return random.nextInt(13) - 1;
            case "rule0":
                return random.nextInt(3);
            case "rule1":
                return (Integer) ahead[0] == 0 ? 1 + random.nextInt(9) : random.nextInt(2);
            case "debt1":
                return 1 + random.nextInt(random.nextInt(3) == 0 ? 99999 : 900);
            case "debt2":
                return random.nextInt(random.nextInt(3) == 0 ? 10000 : 30);
            case "debtIs1": case "voice1":
                return random.nextInt(4);
            case "days0":
                return 1 + random.nextInt(60);
            case "years0":
                return 1 + random.nextInt(random.nextInt(4) == 0 ? 20 : 1);
            case "seed0": case "voice2":
                return random.nextInt(2) == 0 ? random.nextInt() : random.nextInt(200) - 100;
            case "feed1":
                return 1 + random.nextInt(8);
            case "body0":
                return random.nextInt(7);
            case "sheet1":
                return new int[] {0, 8, 8, 16, 16, 32, 32, 32}[random.nextInt(8)];
            case "sheet2":
                return random.nextInt(25);
            case "put1":
                return random.nextInt(24);
            case "put2":
                return random.nextInt(5) == 0 ? random.nextInt() : random.nextInt(300) - 10;
            case "move1": case "move3": case "move4":
                return random.nextInt(8);
            case "sheet0": case "put0": case "move0": case "move2": case "debts0": case "judge0":
                return random.nextInt(4);
            case "told0":
                return 1 + random.nextInt(6);
            case "fails0": case "settle0": case "called0": case "lost0": case "safe0": case "adopt0": case "check0":
            case "judge1": case "debtIs0":
                return random.nextInt(10);
            default:
                return random.nextInt(12);
        }
    }

    private boolean tellsText() throws Exception {
        int use = random.nextInt(2);
        StringBuilder text = new StringBuilder();
        write(text, use == 0 ? "cphsm" : "phn", 0);
        if (text.length() > 60) {
            text.setLength(60);
        }
        while (random.nextInt(3) == 0 && text.length() > 0) {
            String signs = "|&<=>+-*/%!()0123456789cphsmnx";
            text.setCharAt(random.nextInt(text.length()), signs.charAt(random.nextInt(signs.length())));
        }
        boolean same = true;
        if (random.nextInt(10) > 0) {
            same = call("text", 1 - use);
        }
        for (int from = 0; from < text.length() && same; from += 8) {
            int n = Math.min(8, text.length() - from);
            same = call("feed", Due.word(text.substring(from, from + n)), n);
        }
        return same && call("text", random.nextInt(30) == 0 ? 2 : use);
    }

    private void write(StringBuilder text, String names, int depth) {
        int kind = random.nextInt(depth > 6 ? 4 : 9);
        if (kind < 2) {
            text.append(random.nextInt(random.nextInt(3) == 0 ? 10000 : 12));
        } else if (kind < 4) {
            text.append(names.charAt(random.nextInt(names.length())));
        } else if (kind == 4) {
            text.append('!');
            write(text, names, depth + 1);
        } else if (kind == 5) {
            text.append('(');
            write(text, names, depth + 1);
            text.append(')');
        } else {
            write(text, names, depth + 1);
            text.append("|&<=>+-*/%*/".charAt(random.nextInt(12)));
            write(text, names, depth + 1);
        }
    }

    /** Puts the PURSES as they would be, one of them wrong at times. */
    private boolean judgesWell() throws Exception {
        if ((Long) MODEL.get("count").invoke(model, 2) == 0L) {
            return call("needs");
        }
        int debt = random.nextInt((int) (long) (Long) MODEL.get("count").invoke(model, 2));
        int persons = (int) (long) (Long) MODEL.get("count").invoke(model, 0);
        int bits = new int[] {8, 16, 32}[random.nextInt(3)];
        boolean same = call("sheet", 3, bits, random.nextInt(4) == 0 ? random.nextInt(25) : persons);
        for (int p = 0; p < persons && same; p++) {
            long purse = (Long) MODEL.get("personIs").invoke(model, p, 5);
            same = call("called", debt, p);
            long pays = answer;
            int then = (int) Math.max(0, purse - Math.max(0, pays)) + (random.nextInt(30) == 0 ? 1 : 0);
            if (same) {
                same = call("put", 3, p, then);
            }
        }
        return same && call("judge", 3, debt);
    }

    private boolean checksWell() throws Exception {
        if ((Long) MODEL.get("count").invoke(model, 2) == 0L) {
            return call("needs");
        }
        int debt = random.nextInt((int) (long) (Long) MODEL.get("count").invoke(model, 2));
        int persons = (int) (long) (Long) MODEL.get("count").invoke(model, 0);
        boolean same = call("check", debt);
        for (int p = 0; p < persons && same; p++) {
            same = call("called", debt, p);
            long pays = answer;
            if (same && (pays > 0 ? random.nextInt(20) > 0 : random.nextInt(40) == 0)) {
                same = call("tell", p);
            }
        }
        return same && call("check", debt);
    }

    private boolean call(String name, Object... arguments) throws Exception {
        long due = ((Number) MODEL.get(name).invoke(model, arguments)).longValue();
        long got;
        try {
            got = ((Number) REAL.get(name).invoke(real, arguments)).longValue();
        } catch (java.lang.reflect.InvocationTargetException e) {
            calls.add(name + Arrays.toString(arguments) + " threw " + e.getCause());
            return false;
        }
        answer = due;
        if (due >= Due.LOW) {
            GOOD.merge(name, 1, Integer::sum);
        }
        calls.add(name + Arrays.toString(arguments) + " answered " + got + (got == due ? "" : ", due is " + due));
        return got == due;
    }
}
