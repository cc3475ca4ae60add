import java.io.IOException;
import java.lang.reflect.Constructor;
import java.lang.reflect.Field;
import java.lang.reflect.Method;
import java.lang.reflect.Modifier;
import java.nio.file.Files;
import java.nio.file.Path;
import java.util.List;
import java.util.Set;
import java.util.TreeSet;
import java.util.regex.Pattern;

/** The document's face, no more and no less; and those rules of LANGUAGE.md that can be read off the source. */
final class FaceTest {
    private static final Path SOURCE = Path.of("src/main/java/CoalIsLent.java");
    private static final Path DOCUMENT = Path.of("../shared/DOC.md");
    private static final String[] NEVER = {"throw", "throws", "try", "catch", "synchronized", "assert", "import",
        "package", "protected", "Object", "equals", "hashCode", "toString", "lambda", "Exact", "System.exit"};

    private FaceTest() {
    }

    public static void main(String[] args) throws IOException {
        constants();
        methods();
        members();
        inside();
        words();
        madeOnce();
        methodsAreShort();
        Checks.finish();
    }

    private static void fine(String what, boolean is) {
        Checks.due(what, is ? 1 : 0, 1);
    }

    private static void constants() {
        Checks.due("NONE", CoalIsLent.NONE, -1);
        Checks.due("BAD", CoalIsLent.BAD, -2);
        Checks.due("STATE", CoalIsLent.STATE, -3);
        Checks.due("FULL", CoalIsLent.FULL, -4);
        Checks.due("NO", CoalIsLent.NO, -4611686018427387904L);
    }

    /** A method as the document writes it, without the names of what it takes. */
    private static String written(Method m) {
        StringBuilder b = new StringBuilder("public " + m.getReturnType() + " " + m.getName() + "(");
        for (int i = 0; i < m.getParameterCount(); i++) b.append(i > 0 ? ", " : "").append(m.getParameterTypes()[i]);
        return b.append(")").toString();
    }

    private static void methods() throws IOException {
        Set<String> due = new TreeSet<>();
        for (String line : Files.readAllLines(DOCUMENT)) {
            String s = line.trim();
            if (!s.matches("public (int|long) \\w+\\(.*\\);")) continue;
            due.add(s.substring(0, s.length() - 1).replaceAll("(int|long) \\w+(?=[,)])", "$1"));
        }
        Set<String> are = new TreeSet<>();
        for (Method m : CoalIsLent.class.getDeclaredMethods()) {
            if (!Modifier.isPrivate(m.getModifiers())) are.add(written(m));
        }
        Checks.due("how many methods", due.size(), 38);
        fine("the methods: " + are + ", due are " + due, are.equals(due));
    }

    private static void members() {
        fine("public and final", Modifier.isPublic(CoalIsLent.class.getModifiers())
                && Modifier.isFinal(CoalIsLent.class.getModifiers()));
        Set<String> publicNames = new TreeSet<>();
        for (Method m : CoalIsLent.class.getDeclaredMethods()) {
            if (Modifier.isPublic(m.getModifiers())) publicNames.add(m.getName());
        }
        for (Class<?> c : CoalIsLent.class.getDeclaredClasses()) {
            for (Method m : c.getDeclaredMethods()) {
                fine("a method inside bears a public name: " + m, !publicNames.contains(m.getName()));
            }
        }
        for (Method m : CoalIsLent.class.getDeclaredMethods()) {
            fine(m + " is private or public alone", Modifier.isPublic(m.getModifiers())
                    || !publicNames.contains(m.getName()));
        }
        for (Field f : CoalIsLent.class.getDeclaredFields()) {
            boolean ofFace = List.of("NONE", "BAD", "STATE", "FULL", "NO").contains(f.getName());
            fine(f + " is private", ofFace || Modifier.isPrivate(f.getModifiers()));
        }
        Constructor<?>[] made = CoalIsLent.class.getDeclaredConstructors();
        fine("one constructor", made.length == 1 && made[0].getParameterCount() == 0);
    }

    private static void inside() {
        fine("twelve classes at most", CoalIsLent.class.getDeclaredClasses().length <= 12);
        for (Class<?> c : CoalIsLent.class.getDeclaredClasses()) {
            fine(c + " is static", Modifier.isStatic(c.getModifiers()));
            fine(c + " is not public", !Modifier.isPublic(c.getModifiers()));
            int fields = 0;
            for (Field f : c.getDeclaredFields()) {
                if (!Modifier.isStatic(f.getModifiers())) fields++;
                fine(f + " is final, if it is static", !Modifier.isStatic(f.getModifiers())
                        || Modifier.isFinal(f.getModifiers()));
            }
            fine(c + " has twenty fields at most", fields <= 20);
            for (Method m : c.getDeclaredMethods()) fine(m + " takes seven at most", m.getParameterCount() <= 7);
        }
    }

    private static void words() throws IOException {
        String all = Files.readString(SOURCE);
        for (int i = 0; i < all.length(); i++) {
            if (all.charAt(i) > 126) fine("a sign above 126 at " + i, false);
        }
        String code = all.replaceAll("(?s)/\\*.*?\\*/", "").replaceAll("//[^\n]*", "");
        for (String word : NEVER) {
            fine("never " + word, !Pattern.compile("\\b" + Pattern.quote(word) + "\\b").matcher(code).find());
        }
        for (String sign : new String[] {"->", "::", "@", "static {"}) fine("never " + sign, !code.contains(sign));
    }

    /** All is made with a new object, so that no call takes room. */
    private static void madeOnce() throws IOException {
        boolean isMaking = false;
        for (String line : Files.readAllLines(SOURCE)) {
            if (line.startsWith("    public CoalIsLent()")) isMaking = true;
            boolean isField = line.matches("\\s+(private )?final int\\[\\] \\w+ = new int\\[[^\\]]+\\];");
            if (line.contains("new ")) fine("made by a call: " + line, isMaking || isField);
            if (line.equals("    }")) isMaking = false;
        }
    }

    private static void methodsAreShort() throws IOException {
        int since = 0;
        String of = "";
        for (String line : Files.readAllLines(SOURCE)) {
            since++;
            if (line.matches("    (    )?\\S.*\\) \\{")) {
                since = 0;
                of = line.trim();
            }
            if (line.matches("    (    )?\\}") && !of.isEmpty()) {
                fine(of + " is short", since <= 60);
                of = "";
            }
        }
    }
}
