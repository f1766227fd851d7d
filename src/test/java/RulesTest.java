import java.lang.management.ManagementFactory;
import java.lang.reflect.Constructor;
import java.lang.reflect.Field;
import java.lang.reflect.Method;
import java.lang.reflect.Modifier;
import java.nio.charset.StandardCharsets;
import java.nio.file.Files;
import java.nio.file.Path;
import java.util.ArrayList;
import java.util.Arrays;
import java.util.List;
import java.util.Random;
import java.util.TreeSet;
import java.util.regex.Matcher;
import java.util.regex.Pattern;

/** The face of the document, the rules of LANGUAGE.md that can be looked up, and the room that calls take. */
public final class RulesTest {
    private static final String[] FACE = {"int person(int,int,int)", "int personIs(int,int)", "int as(int,int)",
        "int set(int,int,int)", "int parent(int,int,int)", "int rule(int,int)", "int debt(int,int,int)", "int debtIs(int,int)",
        "int fails(int)", "int settle(int)", "int days(int)", "int years(int)", "int seed(int)", "int feed(long,int)",
        "int text(int)", "int untell(int)", "int called(int,int)", "int lost(int)", "int bespoke(int)", "long safe(int,int)",
        "int disown(int)", "int adopt(int)", "int needs()", "int voice(int,int,int)", "int body(int)", "int sheet(int,int,int)",
        "int put(int,int,int)", "int move(int,int,int,int,int)", "int debts(int)", "int judge(int,int)", "int image()",
        "int restore()", "int tell(int)", "int check(int)", "int count(int)", "int told(int)"};
    private static final String[] NOT_THERE = {"throw", "throws", "try", "catch", "finally", "synchronized", "assert", "native",
        "volatile", "var", "Object", "Exception", "Error", "System.out", "System.exit", "Thread", "Class", "hashCode",
        "getClass", "HashMap", "Exact", "goto", "instanceof", "record", "yield"};

    public static void main(String[] args) throws Exception {
        face();
        words();
        lengths();
        names();
        fields();
        nothingIsThrown();
        roomOfCalls();
        Due.end();
    }

    private static String signature(Method m) {
        StringBuilder s = new StringBuilder(m.getReturnType().getName()).append(' ').append(m.getName()).append('(');
        for (int i = 0; i < m.getParameterCount(); i++) {
            s.append(i > 0 ? "," : "").append(m.getParameterTypes()[i].getName());
        }
        return s.append(')').toString();
    }

    private static void face() {
        TreeSet<String> due = new TreeSet<>(Arrays.asList(FACE));
        TreeSet<String> got = new TreeSet<>();
        for (Method m : FathersPay.class.getDeclaredMethods()) {
            if (!Modifier.isPrivate(m.getModifiers())) {
                got.add(signature(m));
                Due.holds(m + " is public, not static", Modifier.isPublic(m.getModifiers()) && !Modifier.isStatic(m.getModifiers()));
            }
        }
        Due.holds("the methods of the face: " + got, got.equals(due));
        for (Field f : FathersPay.class.getDeclaredFields()) {
            Due.holds(f + " is private", Modifier.isPrivate(f.getModifiers()));
        }
        Constructor<?>[] all = FathersPay.class.getDeclaredConstructors();
        Due.holds("one public constructor without arguments", all.length == 1 && all[0].getParameterCount() == 0
            && Modifier.isPublic(all[0].getModifiers()));
        int modifiers = FathersPay.class.getModifiers();
        Due.holds("public and final", Modifier.isPublic(modifiers) && Modifier.isFinal(modifiers));
        for (Class<?> c : FathersPay.class.getDeclaredClasses()) {
            Due.holds(c + " is static, not public", Modifier.isStatic(c.getModifiers()) && !Modifier.isPublic(c.getModifiers())
                && !Modifier.isProtected(c.getModifiers()));
        }
        Due.holds("some twelve classes", FathersPay.class.getDeclaredClasses().length < 12);
    }

    private static String source() throws Exception {
        String text = Files.readString(Path.of("src/main/java/FathersPay.java"), StandardCharsets.ISO_8859_1);
        return text.replaceAll("(?s)/\\*.*?\\*/", "").replaceAll("//[^\n]*", "").replaceAll("\"[^\"\n]*\"", "\"\"");
    }

    private static void words() throws Exception {
        String text = source();
        for (String word : NOT_THERE) {
            Due.holds("no " + word, !Pattern.compile("(?<![\\w.])" + Pattern.quote(word) + "\\b").matcher(text).find());
        }
        Due.holds("no lambda, no method reference", !text.contains("->") && !text.contains("::"));
        Due.holds("one import", text.split("\nimport ", -1).length + (text.startsWith("import ") ? 1 : 0) == 2
            && text.contains("import java.util.Arrays;"));
        Matcher library = Pattern.compile("\\b(Math|Arrays|System|Integer|Long|String|StringBuilder|List|ArrayList)\\.(\\w+)").matcher(text);
        while (library.find()) {
            Due.holds("of the library: " + library.group(), Arrays.asList("Math.min", "Math.max", "Arrays.fill",
                "System.arraycopy").contains(library.group()));
        }
    }

    private static void lengths() throws Exception {
        String[] lines = source().split("\n");
        for (int i = 0; i < lines.length; i++) {
            Due.holds("line " + (i + 1) + " is no longer than 130 signs", lines[i].length() <= 130);
            if (lines[i].matches(" +[\\w\\[\\]<> ]+\\(.*\\) \\{") && !lines[i].trim().matches("(if|for|while|switch|\\} else).*")) {
                String end = lines[i].replaceAll("\\S.*", "}");
                int j = i;
                while (!lines[j].equals(end)) {
                    j++;
                }
                Due.holds("at most sixty lines: " + lines[i].trim(), j - i + 1 <= 60);
                Due.holds("at most seven parameters: " + lines[i].trim(), lines[i].split(",").length <= 7);
            }
        }
    }

    private static void names() {
        TreeSet<String> open = new TreeSet<>();
        for (String f : FACE) {
            open.add(f.substring(f.indexOf(' ') + 1, f.indexOf('(')));
        }
        List<Class<?>> all = new ArrayList<>(Arrays.asList(FathersPay.class.getDeclaredClasses()));
        for (Class<?> c : all) {
            for (Method m : c.getDeclaredMethods()) {
                Due.holds(m + " bears no name of the face", !open.contains(m.getName()));
            }
        }
        for (Method m : FathersPay.class.getDeclaredMethods()) {
            Due.holds(m + " bears no name of the face", Modifier.isPublic(m.getModifiers()) || !open.contains(m.getName()));
        }
    }

    private static void fields() {
        List<Class<?>> all = new ArrayList<>(Arrays.asList(FathersPay.class.getDeclaredClasses()));
        all.add(FathersPay.class);
        for (Class<?> c : all) {
            int own = 0;
            for (Field f : c.getDeclaredFields()) {
                boolean isStatic = Modifier.isStatic(f.getModifiers());
                own += isStatic ? 0 : 1;
                Due.holds(f + " is final", !isStatic || Modifier.isFinal(f.getModifiers()));
            }
            Due.holds(c + " has some twenty fields", own <= 20);
        }
    }

    private static int any(Random random) {
        int[] edges = {Integer.MIN_VALUE, Integer.MIN_VALUE + 1, -1, 0, 1, 2, 8, 16, 32, Integer.MAX_VALUE - 1, Integer.MAX_VALUE};
        return random.nextInt(3) == 0 ? edges[random.nextInt(edges.length)] : random.nextInt(3) == 0 ? random.nextInt()
            : random.nextInt(14) - 1;
    }

    private static void nothingIsThrown() throws Exception {
        Method[] methods = FathersPay.class.getDeclaredMethods();
        Arrays.sort(methods, (a, b) -> a.getName().compareTo(b.getName()));
        for (int run = 0; run < 300; run++) {
            Random random = new Random(run);
            FathersPay x = new FathersPay();
            for (int i = 0; i < 512; i++) {
                Method m = methods[random.nextInt(methods.length)];
                if (!Modifier.isPublic(m.getModifiers())) {
                    continue;
                }
                Object[] all = new Object[m.getParameterCount()];
                for (int at = 0; at < all.length; at++) {
                    if (m.getParameterTypes()[at] == long.class) {
                        all[at] = random.nextLong();
                    } else {
                        all[at] = any(random);
                    }
                }
                m.invoke(x, all);
            }
        }
        Due.holds("no call threw", true);
    }

    /** Twelve PERSONS, each with FATHER and MOTHER among the next two: the most ways up that there can be. */
    private static FathersPay dearest() {
        FathersPay x = new FathersPay();
        for (int p = 0; p < 12; p++) {
            x.person(600, 9999, 9999);
        }
        for (int p = 0; p < 12; p++) {
            x.parent(p, 0, p + 1);
            x.parent(p, 1, p + 2);
            x.set(p, 7, p > 0 && p < 10 ? 5 : 0);
        }
        for (int d = 0; d < 10; d++) {
            x.debt(d % 2, 99999, 9);
        }
        Due.feed(x, "(((((c*p+h-s*m/2%3|c&p<h+s)))))/1");
        x.text(0);
        Due.feed(x, "p+h*n/!(p<h)");
        x.text(1);
        x.sheet(0, 32, 24);
        x.sheet(1, 32, 24);
        return x;
    }

    private static void roomOfCalls() {
        com.sun.management.ThreadMXBean room = (com.sun.management.ThreadMXBean) ManagementFactory.getThreadMXBean();
        long thread = Thread.currentThread().getId();
        long least = Long.MAX_VALUE;
        long ofNew = Long.MAX_VALUE;
        for (int round = 0; round < 5; round++) {
            FathersPay x = dearest();
            room.getThreadAllocatedBytes(thread);
            long before = room.getThreadAllocatedBytes(thread);
            callsOfAll(x);
            long behind = room.getThreadAllocatedBytes(thread);
            new FathersPay();
            ofNew = Math.min(ofNew, room.getThreadAllocatedBytes(thread) - behind);
            least = Math.min(least, behind - before);
        }
        Due.holds("calls make next to nothing: " + least + " bytes", least < 2000);
        Due.holds("a new object is small: " + ofNew + " bytes", ofNew < 20000);
    }

    private static void callsOfAll(FathersPay x) {
        x.image();
        x.needs();
        x.safe(0, 0);
        x.safe(1, 1);
        x.disown(1);
        x.adopt(9);
        x.bespoke(3);
        x.lost(0);
        x.called(0, 5);
        x.judge(0, 0);
        x.tell(0);
        x.check(0);
        x.feed(1, 8);
        x.text(0);
        x.sheet(2, 8, 24);
        x.move(0, 0, 1, 0, 24);
        x.put(0, 0, 1);
        x.debts(0);
        x.voice(0, 3, 1);
        x.body(0);
        x.years(20);
        x.fails(0);
        x.days(60);
        x.restore();
        x.personIs(0, 8);
        x.personIs(0, 9);
        x.parent(0, 0, -1);
        x.parent(0, 0, 1);
        x.count(1);
    }
}
