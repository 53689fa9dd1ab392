import java.lang.management.ManagementFactory;
import java.lang.reflect.Constructor;
import java.lang.reflect.Field;
import java.lang.reflect.Method;
import java.lang.reflect.Modifier;
import java.nio.charset.StandardCharsets;
import java.nio.file.Files;
import java.nio.file.Path;
import java.util.ArrayList;
import java.util.Arrays;
import java.util.List;
import java.util.Set;
import java.util.TreeSet;
import java.util.regex.Pattern;

/** The rules of ../shared/LANGUAGE.md that can be seen from outside: the face, words that mustn't stand, the room. */
public final class RulesTest {
    private static final Due DUE = new Due();
    private static final String FACE = "attempt(int,int,int):int best(int,int):int bond(int):int bonds(int,int,int):int "
        + "brings(int,int,int):int can(int):int chance(int,int,int,int):int count(int):int days(int):int does(int):int "
        + "doing(int,int):int fault(int):int feed(int,int,int,int,int):int forces(int,int):int forget(int,int):int "
        + "house(int):int image(int):int judge(int,int):int likeliest(int,int):int lists(int,int,int):int most():int "
        + "needed(int,int):int numbers(int,int,int):int overhears(int):int perform(int):int restore(int):int "
        + "rows(int,int,int):long secret(int):int soonest(int,int):int stands():int surely(int,int,int,int):int "
        + "tell(int,int):int tellings(int,int):int told(int,int,int):int undo(int):int way(int,int,int):int "
        + "whom(int,int,int,int):int write(int,int,long):long year(int,int):int age(int,int):int alone(int,int):int "
        + "aloneWay(int,int,int):int";

    public static void main(String[] args) throws Exception {
        face();
        nestedClasses();
        words();
        room();
        roomOfAllCalls();
        wildArguments();
        DUE.end();
    }

    private static String signOf(Method m) {
        StringBuilder sign = new StringBuilder(m.getName()).append('(');
        for (int k = 0; k < m.getParameterCount(); k++) {
            sign.append(k > 0 ? "," : "").append(m.getParameterTypes()[k].getName());
        }
        return sign.append("):").append(m.getReturnType().getName()).toString();
    }

    private static void face() {
        Set<String> open = new TreeSet<>();
        Set<String> names = new TreeSet<>();
        for (Method m : BothKnow.class.getDeclaredMethods()) {
            if (!Modifier.isPrivate(m.getModifiers())) {
                open.add(signOf(m));
                names.add(m.getName());
                DUE.holds(m + " is public and no more", m.getModifiers() == Modifier.PUBLIC);
            }
        }
        DUE.holds("the methods are the document's", open.equals(new TreeSet<>(Arrays.asList(FACE.split(" ")))));
        DUE.same("methods", open.size(), 42);
        for (Class<?> c : allClasses()) {
            for (Method m : c.getDeclaredMethods()) {
                DUE.holds(m + " bears no public name", c == BothKnow.class && Modifier.isPublic(m.getModifiers())
                    || !names.contains(m.getName()));
                DUE.holds(m + " takes at most seven", m.getParameterCount() <= 7);
            }
        }
        DUE.holds("public and final", BothKnow.class.getModifiers() == (Modifier.PUBLIC | Modifier.FINAL));
        for (Constructor<?> c : BothKnow.class.getDeclaredConstructors()) {
            DUE.holds("the constructor", Modifier.isPublic(c.getModifiers()) && c.getParameterCount() == 0);
        }
        for (Field f : BothKnow.class.getDeclaredFields()) {
            DUE.holds(f + " is private", Modifier.isPrivate(f.getModifiers()) || f.getName().equals("NONE"));
        }
    }

    private static List<Class<?>> allClasses() {
        List<Class<?>> all = new ArrayList<>(List.of(BothKnow.class));
        all.addAll(Arrays.asList(BothKnow.class.getDeclaredClasses()));
        return all;
    }

    private static void nestedClasses() {
        DUE.holds("some twelve classes", allClasses().size() <= 12);
        for (Class<?> c : allClasses()) {
            DUE.holds(c + " is static", c == BothKnow.class || Modifier.isStatic(c.getModifiers()));
            int own = 0;
            for (Field f : c.getDeclaredFields()) {
                boolean still = Modifier.isStatic(f.getModifiers());
                own += still ? 0 : 1;
                DUE.holds(f + ": what is static is final", !still || Modifier.isFinal(f.getModifiers()));
            }
            DUE.holds(c + " has some twenty fields", own <= 20);
        }
    }

    private static void words() throws Exception {
        String source = new String(Files.readAllBytes(Path.of("src/main/java/BothKnow.java")), StandardCharsets.ISO_8859_1);
        String code = source.replaceAll("(?s)/\\*.*?\\*/", " ").replaceAll("//[^\n]*", " ");
        String[] none = {"\\bthrow", "\\btry\\b", "\\bcatch\\b", "\\bsynchronized\\b", "\\bassert\\b", "->", "::",
            "\\bpackage\\b", "\\bvar\\b", "\\bObject\\b", "\\bdouble\\b", "\\bfloat\\b", "Exact\\b", "hashCode",
            "\\bThread\\b", "\\brandom\\b", "currentTimeMillis", "nanoTime", "\\bprintln\\b", "static \\{", "[^\\x00-\\x7f]"};
        for (String one : none) {
            DUE.holds("'" + one + "' doesn't stand in the program", !Pattern.compile(one).matcher(code).find());
        }
        for (String line : code.split("\n")) {
            if (line.startsWith("import ")) {
                DUE.holds(line, line.equals("import java.util.Arrays;"));
            }
        }
    }

    private static long allocated() {
        return ((com.sun.management.ThreadMXBean) ManagementFactory.getThreadMXBean())
            .getThreadAllocatedBytes(Thread.currentThread().getId());
    }

    /** All rows are made once: calls that come again make nothing. */
    private static void room() {
        BothKnow x = Due.told("house;fact;fact;fact;fact;doing needs 0 age 3 needs 3 age 2;doing but 2;comes:fact+known-theirs;");
        Due.tray(x, 0, 0, 1, 2, 3);
        dearCalls(x);
        long before = allocated();
        dearCalls(x);
        long made = allocated() - before;
        DUE.holds("calls make nothing, not " + made + " bytes", made < 4096);
        before = allocated();
        new BothKnow();
        made = allocated() - before;
        DUE.holds("a new object is small, not " + made + " bytes", made < 40000);
    }

    /** One object's 512 calls, of houses as great as can be: what they make in all. */
    private static void roomOfAllCalls() {
        long before = allocated();
        BothKnow x = new BothKnow();
        for (int k = 0; k < 5; k++) {
            Due.read(x, "house;fact;fact;fact;fact;doing needs 0 age 3;doing needs 3 age 3;comes:" + k % 2 + ";");
            x.image(k % 2);
            Due.tray(x, 0, 0, 1, 2, 3);
            dearCalls(x);
        }
        long made = allocated() - before;
        // Some 270,000 numbers of 4 or 8 bytes; the texts and words of the test itself are small.
        DUE.holds("512 calls make little, not " + made + " bytes", made < 2000000);
    }

    private static void dearCalls(BothKnow x) {
        for (int k = 0; k < 3; k++) {
            x.bond(k);
            x.soonest(1, 1);
            x.way(1, 1, k);
            x.alone(k % 2, 0);
            x.rows(1, 1, 3);
            x.needed(1, 1);
            x.tellings(1, 1);
            x.stands();
            x.most();
            x.can(0);
            x.overhears(1);
            x.told(0, 1, 1);
            x.surely(0, 1, 1, 0);
            x.bonds(0, 1, 1);
            x.attempt(0, 1, 1);
            x.forces(0, 0);
            x.best(1, 0);
            x.chance(0, 0, 4, 1);
            x.likeliest(0, 4);
            x.lists(0, 1, 1);
            x.perform(0);
            x.year(k, 40);
            x.undo(1);
            x.image(0);
            x.restore(0);
        }
    }

    /** No call may throw, whatever it is asked, in whatever state. */
    private static void wildArguments() throws Exception {
        int[] wild = {Integer.MIN_VALUE, -1000, -2, -1, 0, 1, 2, 3, 4, 6, 10, 13, 40, 41, 63, 64, 900, 901, Integer.MAX_VALUE};
        BothKnow x = Due.told("house;fact;fact;fact;doing needs 0 age 3 needs 2 age 2;doing but 2;comes:fact+known-theirs;");
        Due.tray(x, 0, 0, 1, 2, -1);
        Due.tray(x, 1, 0, 1, 2);
        int calls = 0;
        for (Method m : BothKnow.class.getDeclaredMethods()) {
            if (Modifier.isPublic(m.getModifiers())) {
                int n = m.getParameterCount();
                for (int k = 0; k < 400; k++) {
                    Object[] args = new Object[n];
                    for (int a = 0; a < n; a++) {
                        int v = wild[(k * (7 * a + 3) + k / 19 * a + a) % wild.length];
                        args[a] = m.getParameterTypes()[a] == long.class ? (Object) (long) v : (Object) v;
                    }
                    m.invoke(x, args);
                    calls++;
                }
            }
        }
        DUE.same("calls", calls, 42 * 400);
    }
}
