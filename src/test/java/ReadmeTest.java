import java.lang.reflect.Method;
import java.lang.reflect.Modifier;
import java.nio.ByteBuffer;
import java.nio.charset.StandardCharsets;
import java.nio.file.Files;
import java.nio.file.Path;
import java.util.Arrays;
import java.util.List;
import java.util.regex.Matcher;
import java.util.regex.Pattern;

/** README.md tells one run of calls with what each answers: it is held to that, and to naming every call and code. */
public final class ReadmeTest {
    private static final Due DUE = new Due();
    private static final Pattern HOUSE = Pattern.compile("tellHouse\\(x, \"(.*)\"\\); // (-?\\d+)\\b.*");
    private static final Pattern CALL = Pattern.compile("x\\.(\\w+)\\(([^)]*)\\);  // (-?\\d+)\\b.*");
    private static final Pattern CODE = Pattern.compile("\\| (-\\d+)[^|]*\\|[^|]*\\| `x\\.(\\w+)\\(([^)]*)\\)`(?: behind `([^`]*)`)? \\|");

    public static void main(String[] args) throws Exception {
        List<String> page = Files.readAllLines(Path.of("README.md"));
        BothKnow x = run(page);
        codes(x, page);
        names(page);
        helper(page);
        DUE.end();
    }

    static int tellHouse(BothKnow x, String text) {
        byte[] bytes = Arrays.copyOf(text.getBytes(StandardCharsets.ISO_8859_1), (text.length() + 19) / 20 * 20);
        ByteBuffer words = ByteBuffer.wrap(bytes);
        while (words.hasRemaining()) {
            x.feed(words.getInt(), words.getInt(), words.getInt(), words.getInt(), words.getInt());
        }
        return x.house(text.length());
    }

    private static BothKnow run(List<String> page) throws Exception {
        BothKnow x = new BothKnow();
        int asked = 0;
        for (String line : page) {
            Matcher house = HOUSE.matcher(line);
            Matcher call = CALL.matcher(line);
            if (house.matches()) {
                DUE.same(line, tellHouse(x, house.group(1)), Long.parseLong(house.group(2)));
                asked++;
            } else if (call.matches()) {
                DUE.same(line, ask(x, call.group(1), call.group(2)), Long.parseLong(call.group(3)));
                asked++;
            }
        }
        long told = page.stream().filter(line -> line.matches("(x\\.|tellHouse\\().*")).count();
        DUE.same("lines of the run that were asked", asked, told);
        return x;
    }

    /** The table of codes goes on from the run's end. */
    private static void codes(BothKnow x, List<String> page) throws Exception {
        StringBuilder seen = new StringBuilder();
        for (String line : page) {
            Matcher code = CODE.matcher(line);
            if (code.matches()) {
                String behind = code.group(4);
                if (behind != null && behind.startsWith("may")) {
                    tellHouse(x, "house; fact; " + behind);
                } else if (behind != null) {
                    DUE.same(behind, x.numbers(0, 0, 11), 0);
                }
                long got = ask(x, code.group(2), code.group(3));
                long want = Long.parseLong(code.group(1));
                DUE.holds(line + ": " + got, want == -31 ? got <= -31 && got >= -34 : got == want);
                seen.append(want).append(' ');
            }
        }
        DUE.holds("all codes, not " + seen, seen.toString().equals("-2 -3 -4 -5 -6 -7 -11 -12 -13 -31 "));
    }

    private static long ask(BothKnow x, String name, String arguments) throws Exception {
        String[] words = arguments.isEmpty() ? new String[0] : arguments.split(", ");
        Method call = methodOf(name);
        Object[] args = new Object[words.length];
        for (int k = 0; k < words.length; k++) {
            boolean isLong = call.getParameterTypes()[k] == long.class;
            args[k] = isLong ? (Object) Long.valueOf(words[k]) : (Object) Integer.valueOf(words[k]);
        }
        return ((Number) call.invoke(x, args)).longValue();
    }

    private static Method methodOf(String name) {
        for (Method m : BothKnow.class.getDeclaredMethods()) {
            if (m.getName().equals(name) && Modifier.isPublic(m.getModifiers())) {
                return m;
            }
        }
        throw new IllegalStateException("README.md asks " + name + "(), which there is none of");
    }

    private static void names(List<String> page) {
        String all = String.join("\n", page);
        for (Method m : BothKnow.class.getDeclaredMethods()) {
            if (Modifier.isPublic(m.getModifiers())) {
                boolean named = Pattern.compile("`" + m.getName() + "\\b|\\bx\\." + m.getName() + "\\(").matcher(all).find();
                DUE.holds("README.md names " + m.getName() + "()", named);
            }
        }
    }

    /** What the page shows for telling a house is what was used here. */
    private static void helper(List<String> page) throws Exception {
        List<String> here = Files.readAllLines(Path.of("src/test/java/ReadmeTest.java"));
        int from = page.indexOf("static int tellHouse(BothKnow x, String text) {");
        DUE.holds("README.md shows how a house is told", from >= 0);
        int there = here.indexOf("    static int tellHouse(BothKnow x, String text) {");
        for (int k = 0; from >= 0 && k < 8; k++) {
            DUE.holds("README.md: " + page.get(from + k), ("    " + page.get(from + k)).equals(here.get(there + k)));
        }
    }
}
