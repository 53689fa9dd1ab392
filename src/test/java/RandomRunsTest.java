import java.lang.reflect.Method;
import java.lang.reflect.Modifier;
import java.util.Arrays;
import java.util.Comparator;
import java.util.List;
import java.util.Map;
import java.util.Random;
import java.util.TreeMap;

/** Runs of calls by draws, the same on BothKnow and on the oracle; the seeds are fixed. */
public final class RandomRunsTest {
    private static final Due DUE = new Due();
    private static final Map<String, Method[]> FACE = new TreeMap<>();
    /** How often each call answered by a code, 0, or more: told with a third argument. */
    private static final Map<String, Integer> ANSWERS = new TreeMap<>();

    private final Random random;
    private final BothKnow x = new BothKnow();
    private final Oracle oracle = new Oracle();
    private final int mostFacts;
    private final StringBuilder told = new StringBuilder();

    private RandomRunsTest(long seed, int mostFacts) {
        random = new Random(seed);
        this.mostFacts = mostFacts;
    }

    public static void main(String[] args) throws Exception {
        int runs = args.length > 0 ? Integer.parseInt(args[0]) : 40;
        long seed = args.length > 1 ? Long.parseLong(args[1]) : 1;
        Method[] all = BothKnow.class.getDeclaredMethods();
        Arrays.sort(all, Comparator.comparing(Method::getName));
        for (Method m : all) {
            if (Modifier.isPublic(m.getModifiers()) && !List.of("feed", "house").contains(m.getName())) {
                FACE.put(m.getName(), new Method[] {m, Oracle.class.getDeclaredMethod(m.getName(), m.getParameterTypes())});
            }
        }
        for (int k = 0; k < runs; k++) {
            new RandomRunsTest(seed * 1000003 + k, 2).run(250);
            if (k % 5 == 0) {
                new RandomRunsTest(seed * 2000003 + k, 3).run(40);
            }
            if (k % 40 == 0) {
                new RandomRunsTest(seed * 3000017 + k, 4).run(12);
            }
            new RandomRunsTest(seed * 4000037 + k, 4).faults(100);
        }
        if (args.length > 2) {
            System.out.println(ANSWERS);
        }
        DUE.end();
    }

    private void run(int acts) throws Exception {
        for (int k = 0; k < acts; k++) {
            if (k == 0 || random.nextInt(25) == 0) {
                read(houseText(mostFacts));
            }
            switch (random.nextInt(12)) {
                case 0 -> comings();
                case 1 -> alones();
                case 2 -> witnesses();
                case 3 -> bonds();
                case 4 -> forcing();
                case 5 -> deeds();
                default -> anyCall();
            }
        }
    }

    // ---- texts

    private void faults(int texts) throws Exception {
        for (int k = 0; k < texts; k++) {
            StringBuilder text = new StringBuilder(houseText(4));
            for (int c = random.nextInt(3); c > 0; c--) {
                change(text);
            }
            text.setLength(Math.min(900, text.length()));
            read(text.toString());
            for (int what = 0; what < 9; what++) {
                ask("count", what);
            }
            ask("brings", 1, 0, 0);
            ask("brings", 0, 1, 1);
            ask("doing", 0, 10);
        }
    }

    private void change(StringBuilder text) {
        String[] bits = {"fact", "house", ";", ":", "(", ")", "[", "]", "not ", "if ", " 12 ", "1000", "bond", "kind ",
            "?", "\n", "\t", " = ", "<", "end", "then", "A", "and", "or", "needs 0", "but 1", " age 2", "knows 1 1 1;",
            "((((((((", "0", "fact;fact;", "doing;doing;doing;", "" + (char) 222, "comes:", "may:"};
        int at = random.nextInt(text.length() + 1);
        switch (random.nextInt(4)) {
            case 0 -> text.insert(at, bits[random.nextInt(bits.length)]);
            case 1 -> text.delete(at, Math.min(text.length(), at + 1 + random.nextInt(3)));
            case 2 -> text.insert(at, (char) random.nextInt(128));
            default -> text.setLength(Math.max(1, at));
        }
    }

    private void read(String text) {
        for (int k = 0; k < text.length(); k += 20) {
            int[] words = new int[5];
            for (int b = 0; b < 20; b++) {
                int c = k + b < text.length() ? text.charAt(k + b) : ' ';
                words[b / 4] |= (c & 255) << 24 - 8 * (b % 4);
            }
            same("feed", x.feed(words[0], words[1], words[2], words[3], words[4]), oracle.feed(words));
        }
        told.append("\n  house(").append(text.length()).append(") ").append(text);
        same("house of '" + text + "'", x.house(text.length()), oracle.house(text.length()));
        same("fault(0) of '" + text + "'", x.fault(0), oracle.fault(0));
        same("fault(1) of '" + text + "'", x.fault(1), oracle.fault(1));
    }

    private String houseText(int most) {
        StringBuilder t = new StringBuilder("house;");
        int facts = random.nextInt(12) == 0 ? 0 : random.nextInt(3) == 0 ? 1 + random.nextInt(most) : most;
        for (int f = 0; f < facts; f++) {
            t.append("fact").append(random.nextBoolean() ? " kind " + random.nextInt(10) : "").append(';');
        }
        int doings = random.nextInt(8) == 0 ? 0 : 1 + random.nextInt(6);
        for (int d = 0; d < doings; d++) {
            t.append("doing");
            int needs = facts == 0 || random.nextInt(10) == 0 ? 0 : 1 + random.nextInt(facts);
            for (int n = 0; n < needs; n++) {
                t.append(random.nextInt(3) == 0 ? " but " + random.nextInt(facts)
                    : " needs " + random.nextInt(facts) + " age " + (1 + random.nextInt(3)));
            }
            t.append(';');
        }
        for (int k = random.nextInt(6) - 2; k > 0 && facts > 0; k--) {
            t.append("knows " + random.nextInt(2) + " " + random.nextInt(facts) + " " + random.nextInt(4) + ";");
        }
        if (random.nextBoolean()) {
            t.append("bond " + random.nextInt(10) + ";");
        }
        if (random.nextInt(6) > 0) {
            t.append("comes:").append(sum(2, true)).append(';');
        }
        if (random.nextInt(2) > 0) {
            t.append("may:").append(truth(2, false)).append(';');
        }
        return t.length() > 880 ? houseText(most) : t.toString();
    }

    private String sum(int depth, boolean bond) {
        StringBuilder t = new StringBuilder(term(depth, bond));
        for (int k = random.nextInt(3); k > 0; k--) {
            t.append(random.nextBoolean() ? " + " : "-").append(term(depth, bond));
        }
        return t.toString();
    }

    private String term(int depth, boolean bond) {
        return random.nextInt(4) == 0 ? atom(depth, bond) + "*" + atom(depth, bond) : atom(depth, bond);
    }

    private String atom(int depth, boolean bond) {
        String[] names = {"twin", "fact", "kind", "known", "theirs", bond ? "bond" : "known", bond ? "bond" : "twin"};
        int sort = random.nextInt(depth > 0 ? 8 : 6);
        if (sort < 2) {
            return "" + random.nextInt(random.nextInt(9) == 0 ? 1000 : 6);
        }
        if (sort < 6) {
            return names[random.nextInt(names.length)];
        }
        return sort == 6 ? "(" + sum(depth - 1, bond) + ")" : "if " + truth(depth - 1, bond) + " then "
            + sum(depth - 1, bond) + " else " + sum(depth - 1, bond) + " end";
    }

    private String truth(int depth, boolean bond) {
        return both(depth, bond) + (random.nextInt(3) == 0 ? " or " + both(depth, bond) : "");
    }

    private String both(int depth, boolean bond) {
        return unit(depth, bond) + (random.nextInt(4) == 0 ? " and " + unit(depth, bond) : "");
    }

    private String unit(int depth, boolean bond) {
        int sort = random.nextInt(depth > 0 ? 8 : 6);
        if (sort < 6) {
            return sum(depth - 1, bond) + "=<>".charAt(random.nextInt(3)) + sum(depth - 1, bond);
        }
        return sort == 6 ? "not " + unit(depth - 1, bond) : "[" + truth(depth - 1, bond) + "]";
    }

    // ---- acts of several calls that belong together

    private void comings() throws Exception {
        int[] sets = {set(), set()};
        long steps = ask("soonest", sets[0], sets[1]);
        for (int i = 0; i <= steps; i++) {
            ask("way", sets[0], sets[1], i);
        }
        ask("needed", sets[0], sets[1]);
        ask("tellings", sets[0], sets[1]);
        ask("rows", sets[0], sets[1], few(mostFacts > 2 ? 6 : 13));
        if (random.nextBoolean()) {
            ask("numbers", 2, 0, random.nextInt(9));
        }
        ask("lists", 2, sets[0], sets[1]);
        ask("judge", 2, 2);
        ask("judge", 2, 3);
    }

    private void alones() throws Exception {
        for (int d = 0; d < oracle.count(1); d++) {
            int twin = random.nextInt(2);
            long steps = ask("alone", twin, d);
            for (int i = 0; i <= steps; i++) {
                ask("aloneWay", twin, d, i);
            }
        }
    }

    private void lay(int tray, long... numbers) throws Exception {
        ask("numbers", tray, random.nextInt(4), numbers.length);
        for (int k = 0; k < numbers.length; k++) {
            ask("write", tray, k, numbers[k]);
        }
    }

    private int anyFact() {
        return random.nextInt(Math.max(1, oracle.count(0)));
    }

    private void witnesses() throws Exception {
        int n = 1 + random.nextInt(mostFacts > 2 ? 5 : 10);
        long[] facts = new long[n];
        long[] deeds = new long[2 * n];
        for (int k = 0; k < n; k++) {
            facts[k] = anyFact();
            deeds[2 * k] = facts[k] + 10 * random.nextInt(2);
            deeds[2 * k + 1] = -1;
        }
        lay(1, facts);
        int[] sets = oracle.setsBehind(oracle.count(4), deeds);
        if (sets == null) {
            sets = new int[] {set(), set()};
        }
        ask("told", 1, sets[0], sets[1]);
        ask("surely", 1, sets[0], sets[1], 0);
        ask("surely", 1, sets[0], sets[1], 1);
        for (int i = 0; i <= n; i++) {
            ask("whom", 1, sets[0], sets[1], i);
        }
    }

    private void bonds() throws Exception {
        long[] deeds = new long[1 + random.nextInt(12)];
        for (int k = 0; k < deeds.length; k++) {
            deeds[k] = random.nextInt(3) == 0 ? -1 : anyFact() + 10 * random.nextInt(2);
        }
        lay(3, deeds);
        int[] sets = oracle.setsBehind(random.nextInt(10), deeds);
        if (sets == null) {
            sets = new int[] {set(), set()};
        }
        ask("bonds", 3, sets[0], sets[1]);
        ask("attempt", 3, sets[0], sets[1]);
    }

    private void forcing() throws Exception {
        int twin = random.nextInt(2);
        for (int d = 0; d < oracle.count(1) && (mostFacts < 3 || d < 1); d++) {
            ask("forces", twin, d);
            ask("best", twin, d);
            int n = random.nextInt(5);
            ask("chance", twin, d, n, 0);
            ask("chance", twin, d, n, 1);
        }
    }

    private void deeds() throws Exception {
        long[] deeds = new long[random.nextInt(8)];
        for (int k = 0; k < deeds.length; k++) {
            deeds[k] = number();
        }
        lay(0, deeds);
        for (int what = 0; what < 4; what++) {
            ask("judge", 0, what);
        }
        ask("perform", 0);
        ask("does", 0);
        ask("does", 1);
        ask("count", 4);
        ask("undo", 1);
        ask("does", 0);
        ask("does", 1);
        ask("count", 4);
        ask("count", 6);
    }

    // ---- single calls

    private void anyCall() throws Exception {
        String[] names = FACE.keySet().toArray(new String[0]);
        String name = names[random.nextInt(names.length)];
        boolean dear = List.of("forces", "best", "needed", "rows", "chance", "likeliest").contains(name);
        if (!(mostFacts > 2 && dear && random.nextBoolean())) {
            ask(name, argumentsOf(name));
        }
    }

    private long ask(String name, Object... args) throws Exception {
        Method[] both = FACE.get(name);
        long got = ((Number) both[0].invoke(x, args)).longValue();
        long want = ((Number) both[1].invoke(oracle, args)).longValue();
        told.append("\n  ").append(name).append(Arrays.toString(args)).append(" = ").append(got);
        ANSWERS.merge(name + " " + (got < 0 ? "" + got : got == 0 ? "0" : "more"), 1, Integer::sum);
        same(name + Arrays.toString(args), got, want);
        return want;
    }

    private void same(String what, long got, long want) {
        if (got != want) {
            System.out.println("run:" + told);
        }
        DUE.same(what, got, want);
        if (got != want) {
            DUE.end();
        }
    }

    private Object[] argumentsOf(String name) {
        int facts = Math.max(1, oracle.count(0));
        int doings = Math.max(1, oracle.count(1));
        return switch (name) {
            case "age", "tell", "forget" -> new Object[] {few(2), few(facts)};
            case "brings" -> new Object[] {few(2), few(facts), few(2)};
            case "secret" -> new Object[] {few(facts)};
            case "alone", "forces", "best" -> new Object[] {few(2), few(doings)};
            case "aloneWay" -> new Object[] {few(2), few(doings), few(5)};
            case "chance" -> new Object[] {few(2), few(doings), few(5), few(2)};
            case "likeliest" -> new Object[] {few(2), few(5)};
            case "doing" -> new Object[] {few(doings), random.nextBoolean() ? few(3) : 10 + few(facts)};
            case "write" -> new Object[] {few(4), few(12), number()};
            case "numbers" -> new Object[] {few(4), few(4), random.nextInt(8) == 0 ? few(41) : few(6)};
            case "soonest", "needed", "tellings" -> new Object[] {set(), set()};
            case "way" -> new Object[] {set(), set(), few(8)};
            case "rows" -> new Object[] {set(), set(), few(mostFacts > 2 ? 6 : 13)};
            case "told", "bonds", "attempt", "lists" -> new Object[] {few(4), set(), set()};
            case "whom" -> new Object[] {few(4), set(), set(), few(6)};
            case "surely" -> new Object[] {few(4), set(), set(), few(2)};
            case "judge" -> new Object[] {few(4), few(4)};
            case "perform" -> new Object[] {few(4)};
            case "year" -> new Object[] {random.nextInt(), random.nextInt(9) == 0 ? few(41) : 1 + random.nextInt(6)};
            case "days" -> new Object[] {random.nextInt(9) == 0 ? few(101) : few(3)};
            case "bond" -> new Object[] {few(10)};
            case "undo" -> new Object[] {random.nextInt(4) == 0 ? few(12) : few(3)};
            case "count" -> new Object[] {few(10)};
            case "stands", "most" -> new Object[0];
            default -> new Object[] {few(2)};
        };
    }

    /** Mostly 0 to n - 1, now and then a number beside. */
    private int few(int n) {
        int sort = random.nextInt(40);
        return sort == 0 ? -1 : sort == 1 ? n : sort == 2 ? random.nextInt() : random.nextInt(n);
    }

    private int set() {
        int sets = (1 << oracle.count(1)) - 1;
        int sort = random.nextInt(60);
        int some = random.nextInt(sets + 1);
        return sort == 0 ? sets + 1 : sort == 1 ? random.nextInt()
            : random.nextBoolean() ? some & random.nextInt(sets + 1) : Integer.highestOneBit(some);
    }

    private long number() {
        return switch (random.nextInt(12)) {
            case 0, 1 -> -1;
            case 2 -> 100 + 10 * random.nextInt(2) + anyFact();
            case 3 -> 200 + random.nextInt(10);
            case 4 -> random.nextBoolean() ? random.nextLong() : random.nextInt(300) - 20;
            case 5 -> (1L << 32) * random.nextInt(3) + random.nextInt(4);
            case 6, 7, 8 -> 10 + anyFact();
            default -> anyFact();
        };
    }
}
