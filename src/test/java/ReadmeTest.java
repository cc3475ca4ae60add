import java.io.IOException;
import java.lang.reflect.InvocationTargetException;
import java.lang.reflect.Method;
import java.nio.file.Files;
import java.nio.file.Path;
import java.util.ArrayList;
import java.util.LinkedHashSet;
import java.util.List;
import java.util.Set;
import java.util.TreeSet;
import java.util.regex.Matcher;
import java.util.regex.Pattern;

/** What README.md shows: every call with its answer is made; its tables are held against the document and the class. */
final class ReadmeTest {
    private static final Path README = Path.of("README.md"), DOCUMENT = Path.of("../shared/DOC.md");
    private static final int MOST_CALLS = 512;
    private static final String MADE = "CoalIsLent x = new CoalIsLent();";
    private static final Pattern CALL = Pattern.compile(
            "(?:for \\(int i = 0; i < (\\d+); i\\+\\+\\) )?x\\.(\\w+)\\((.*)\\);\\s+// (-?\\d+)(?::? .*|,.*|)");
    private static final Pattern ARGUMENT = Pattern.compile("'(.)'|(-?\\d+)");
    private static final Pattern ROW = Pattern.compile("\\| `((?:int|long) \\w+\\(.*?\\))` \\|.*\\| (.*?) ?\\|");
    private static final Pattern NUMBER_ROW = Pattern.compile("\\| (-?\\d+) \\| `(\\w+)` \\|.*");
    private static final Pattern REFUSAL = Pattern.compile("\\b(?:BAD|STATE|FULL|NO)\\b|-1000000|-(?:5|7|11|12|13|14)\\b");
    private static final Pattern PATH = Pattern.compile("`([.\\w]+(?:/[.\\w]+)+)`");

    private final List<String> lines;
    private final List<String> faces = new ArrayList<>();
    private final Set<String> shown = new TreeSet<>();
    private CoalIsLent x;
    private int calls;

    private ReadmeTest(List<String> lines) {
        this.lines = lines;
    }

    public static void main(String[] args) throws IOException, ReflectiveOperationException {
        ReadmeTest test = new ReadmeTest(Files.readAllLines(README));
        test.makeCalls();
        test.tellsRefusals();
        test.tellsConstants();
        test.namesPaths();
        Checks.finish();
    }

    private static void fine(String what, boolean is) {
        Checks.due(what, is ? 1 : 0, 1);
    }

    // ---- the calls

    private void makeCalls() throws ReflectiveOperationException {
        boolean isJava = false;
        for (int i = 0; i < lines.size(); i++) {
            String line = lines.get(i);
            if (line.startsWith("```")) {
                isJava = line.equals("```java");
                x = null;
            } else if (isJava && !line.isBlank()) {
                make("README.md, line " + (i + 1) + ": " + line, line);
            }
        }
        Set<String> due = new TreeSet<>();
        for (Method m : CoalIsLent.class.getDeclaredMethods()) {
            if (java.lang.reflect.Modifier.isPublic(m.getModifiers())) due.add(m.getName());
        }
        Checks.dueText("the calls that README.md shows", shown.toString(), due.toString());
    }

    private void make(String where, String line) throws ReflectiveOperationException {
        if (line.equals(MADE)) {
            fine(where + " stands at the head", x == null);
            x = new CoalIsLent();
            calls = 0;
            return;
        }
        Matcher m = CALL.matcher(line);
        boolean isCall = m.matches();
        fine(where + " is a call of an object, with its answer", isCall && x != null);
        if (!isCall || x == null) return;
        int times = m.group(1) == null ? 1 : Integer.parseInt(m.group(1));
        long got = Long.MIN_VALUE;
        for (int i = 0; i < times; i++) got = answer(where, m.group(2), m.group(3));
        Checks.due(where, got, Long.parseLong(m.group(4)));
        shown.add(m.group(2));
        calls += times;
        fine(where + " is among the first calls", calls <= MOST_CALLS);
    }

    private long answer(String where, String name, String written) throws ReflectiveOperationException {
        Object[] arguments = argumentsOf(where, written);
        for (Method m : CoalIsLent.class.getDeclaredMethods()) {
            if (m.getName().equals(name) && m.getParameterCount() == arguments.length) {
                try {
                    return ((Number) m.invoke(x, arguments)).longValue();
                } catch (InvocationTargetException e) {
                    throw new IllegalStateException(where, e.getCause());
                }
            }
        }
        fine(where + " is a call of the face", false);
        return Long.MIN_VALUE;
    }

    private static Object[] argumentsOf(String where, String written) {
        List<Object> all = new ArrayList<>();
        StringBuilder again = new StringBuilder();
        Matcher m = ARGUMENT.matcher(written);
        while (m.find()) {
            again.append(again.length() > 0 ? ", " : "").append(m.group());
            all.add(m.group(1) != null ? (int) m.group(1).charAt(0) : Integer.parseInt(m.group(2)));
        }
        Checks.dueText(where + ", what it takes", again.toString(), written);
        return all.toArray();
    }

    // ---- the tables

    /** A row for each call, in the document's order, and what refuses it, the first one ahead. */
    private void tellsRefusals() throws IOException {
        List<String> document = Files.readAllLines(DOCUMENT);
        for (String line : lines) {
            Matcher m = ROW.matcher(line);
            if (!m.matches()) continue;
            faces.add(m.group(1));
            String name = m.group(1).replaceAll("^\\w+ |\\(.*", "");
            Checks.dueText("what refuses " + name, refusalsIn(m.group(2)), refusalsIn(promiseOf(name, document)));
        }
        List<String> due = new ArrayList<>();
        for (String line : document) {
            if (line.matches("    public (int|long) \\w+\\(.*\\);")) due.add(line.trim().replaceAll("^public |;$", ""));
        }
        Checks.dueText("the calls with a row", faces.toString(), due.toString());
    }

    private static String promiseOf(String name, List<String> document) {
        for (int i = 0; i + 2 < document.size(); i++) {
            if (document.get(i).matches("## Promise \\d+: " + name)) return document.get(i + 2);
        }
        fine(name + " is promised", false);
        return "";
    }

    private static String refusalsIn(String text) {
        Set<String> all = new LinkedHashSet<>();
        Matcher m = REFUSAL.matcher(text);
        while (m.find()) all.add(m.group());
        return all.toString();
    }

    private void tellsConstants() throws ReflectiveOperationException {
        Set<String> names = new LinkedHashSet<>();
        for (String line : lines) {
            Matcher m = NUMBER_ROW.matcher(line);
            if (!m.matches() || m.group(2).equals("text") || m.group(2).equals("net")) continue;
            names.add(m.group(2));
            long is = ((Number) CoalIsLent.class.getDeclaredField(m.group(2)).get(null)).longValue();
            Checks.due("README.md says of " + m.group(2), Long.parseLong(m.group(1)), is);
        }
        Checks.dueText("the constants", names.toString(), "[NONE, BAD, STATE, FULL, NO]");
    }

    private void namesPaths() {
        for (String line : lines) {
            Matcher m = PATH.matcher(line);
            while (m.find()) fine(m.group(1) + " is there", Files.exists(Path.of(m.group(1))));
        }
        fine(".ci/run can be run", Files.isExecutable(Path.of(".ci/run")));
        for (String name : new String[] {"LoanTest", "ReadmeTest"}) {
            fine(name + " is there", Files.exists(Path.of("src/test/java/" + name + ".java")));
        }
    }
}
