import java.io.IOException;
import java.lang.reflect.InvocationTargetException;
import java.lang.reflect.Method;
import java.nio.file.Files;
import java.nio.file.Path;
import java.util.ArrayList;
import java.util.Arrays;
import java.util.List;
import java.util.Set;
import java.util.TreeSet;
import java.util.regex.Matcher;
import java.util.regex.Pattern;

/** README.md holds: its calls answer what stands behind them, its helper is the one used here, its tables are right. */
public final class ReadmeTest {
    private static final Pattern BLOCK = Pattern.compile("(?s)```java\n(.*?)```");
    private static final Pattern MADE = Pattern.compile("SunnyPans pans = new SunnyPans\\(\\);");
    private static final Pattern ASKED = Pattern.compile("pans\\.(\\w+)\\((.*)\\); *// (throws (\\w+)|-?\\d+)\\b.*");
    private static final Pattern BROUGHT = Pattern.compile("bring\\(pans, \"([^\"]*)\"\\)");
    private static final Pattern NAME = Pattern.compile("`(\\w+)`");

    private static int wrong = 0;
    private static int asked = 0;
    private static SunnyPans pans = new SunnyPans();

    public static void main(String[] args) throws IOException, IllegalAccessException {
        String page = Files.readString(Path.of("README.md"));
        String own = Files.readString(Path.of("src/test/java/ReadmeTest.java"));
        Matcher block = BLOCK.matcher(page);
        while (block.find()) {
            if (block.group(1).contains("static int bring")) {
                helper(block.group(1), own);
            } else {
                run(block.group(1));
            }
        }
        if (asked < 30) {
            say("README.md has " + asked + " calls alone");
        }
        exceptions(page);
        names(page);
        faultRows(page);
        if (wrong > 0) {
            System.exit(1);
        }
    }

    private static void say(String what) {
        wrong++;
        System.out.println(what);
    }

    // ---- README's own helper, word for word ----

    /** Brings a text onto the tape, by twenty bytes; answers how many bytes it has. */
    static int bring(SunnyPans pans, String text) {
        for (int i = 0; i < text.length(); i += 20) {
            pans.feed(four(text, i), four(text, i + 4), four(text, i + 8), four(text, i + 12), four(text, i + 16));
        }
        return text.length();
    }

    static int four(String text, int from) {
        int four = 0;
        for (int i = from; i < from + 4; i++) {
            four = four << 8 | (i < text.length() ? text.charAt(i) : ' ');
        }
        return four;
    }

    private static void helper(String told, String own) {
        for (String line : told.split("\n")) {
            if (!line.isEmpty() && !own.contains("\n    " + line + "\n")) {
                say("README.md's helper is not the one that is tested: " + line);
            }
        }
    }

    // ---- its calls ----

    private static void run(String block) throws IllegalAccessException {
        for (String line : block.split("\n")) {
            Matcher m = ASKED.matcher(line);
            if (MADE.matcher(line).matches()) {
                pans = new SunnyPans();
            } else if (m.matches()) {
                asked++;
                String got = answer(m.group(1), m.group(2));
                if (!got.equals(m.group(3))) {
                    say("README.md: " + line + "\n  answered " + got);
                }
            } else {
                say("README.md has a line that is not tested: " + line);
            }
        }
    }

    private static String answer(String name, String told) throws IllegalAccessException {
        Matcher text = BROUGHT.matcher(told);
        Object[] numbers;
        if (text.matches()) {
            numbers = new Object[] {bring(pans, text.group(1))};
        } else {
            String[] parts = told.isEmpty() ? new String[0] : told.split(", ");
            numbers = new Object[parts.length];
            for (int i = 0; i < parts.length; i++) {
                numbers[i] = Integer.valueOf(parts[i]);
            }
        }
        for (Method m : SunnyPans.class.getMethods()) {
            if (m.getDeclaringClass() == SunnyPans.class && m.getName().equals(name)
                && m.getParameterCount() == numbers.length) {
                try {
                    return String.valueOf(m.invoke(pans, numbers));
                } catch (InvocationTargetException e) {
                    return "throws " + e.getCause().getClass().getSimpleName();
                }
            }
        }
        return "nothing: there is no such call";
    }

    // ---- its tables ----

    private static void exceptions(String page) {
        Set<String> silent = new TreeSet<>();
        for (Method m : face()) {
            if (m.getExceptionTypes().length == 0) {
                silent.add(m.getName());
            }
        }
        for (String exception : new String[] {"NoSuchElementException", "IllegalArgumentException"}) {
            Set<String> want = new TreeSet<>();
            for (Method m : face()) {
                for (Class<?> c : m.getExceptionTypes()) {
                    if (c.getSimpleName().equals(exception)) {
                        want.add(m.getName());
                    }
                }
            }
            Matcher row = Pattern.compile("\\| `" + exception + "` \\|[^|]*\\|([^|]*)\\|").matcher(page);
            same("calls that throw " + exception, want, row.find() ? namesIn(row.group(1)) : new TreeSet<>());
        }
        Matcher never = Pattern.compile("\n(.*) never throw\\.").matcher(page);
        same("calls that never throw", silent, never.find() ? namesIn(never.group(1)) : new TreeSet<>());
    }

    private static void names(String page) {
        Set<String> told = namesIn(page);
        for (Method m : face()) {
            if (!told.contains(m.getName()) && !page.contains("`" + m.getName() + "()`")) {
                say("README.md does not name " + m.getName());
            }
        }
    }

    private static void faultRows(String page) {
        List<String> rows = new ArrayList<>();
        for (int fault = 1; fault <= 3; fault++) {
            rows.add("| " + (fault - 10) + " | " + fault + ": ");
        }
        rows.add("| -20 | none");
        for (String row : rows) {
            if (!page.contains("\n" + row)) {
                say("README.md has no row " + row);
            }
        }
    }

    private static void same(String what, Set<String> want, Set<String> got) {
        if (!want.equals(got)) {
            say("README.md: " + what + ": " + got + ", the face has " + want);
        }
    }

    private static Set<String> namesIn(String text) {
        Set<String> names = new TreeSet<>();
        Matcher name = NAME.matcher(text);
        while (name.find()) {
            names.add(name.group(1));
        }
        return names;
    }

    private static List<Method> face() {
        List<Method> face = new ArrayList<>(Arrays.asList(SunnyPans.class.getMethods()));
        face.removeIf(m -> m.getDeclaringClass() != SunnyPans.class);
        return face;
    }
}
