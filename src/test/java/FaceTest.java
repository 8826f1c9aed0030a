import java.io.IOException;
import java.lang.reflect.Constructor;
import java.lang.reflect.Field;
import java.lang.reflect.Method;
import java.lang.reflect.Modifier;
import java.nio.file.Files;
import java.nio.file.Path;
import java.util.Set;
import java.util.TreeSet;
import java.util.regex.Matcher;
import java.util.regex.Pattern;

/** The public face is the document's, and the source keeps to the rules of LANGUAGE.md that can be seen from outside. */
public final class FaceTest {
    private static final Path SOURCE = Path.of("src/main/java/DoorIsHeld.java");
    private static final Path DOCUMENT = Path.of("../shared/DOC.md");
    private static final Pattern METHOD = Pattern.compile("    public int (\\w+)\\(([^)]*)\\);");

    private final Check check = new Check("FaceTest");

    public static void main(String[] args) throws IOException {
        FaceTest test = new FaceTest();
        test.face();
        for (Class<?> inside : DoorIsHeld.class.getDeclaredClasses()) {
            test.inside(inside);
        }
        test.source();
        test.check.end();
    }

    private void face() throws IOException {
        Class<?> c = DoorIsHeld.class;
        check.holds("public and final", Modifier.isPublic(c.getModifiers()) && Modifier.isFinal(c.getModifiers()));
        Set<String> due = new TreeSet<>();
        Set<String> publicNames = new TreeSet<>();
        Matcher m = METHOD.matcher(Files.readString(DOCUMENT));
        while (m.find()) {
            String parameters = m.group(2);
            due.add(m.group(1) + " " + (parameters.isEmpty() ? 0 : parameters.split(",").length));
            publicNames.add(m.group(1));
        }
        check.due("methods of the document", due.size(), 37);
        Set<String> got = new TreeSet<>();
        for (Method method : c.getDeclaredMethods()) {
            if (Modifier.isPublic(method.getModifiers())) {
                check.holds(method + " is an int's", method.getReturnType() == int.class);
                got.add(method.getName() + " " + method.getParameterCount());
            } else {
                check.holds(method + " is private", Modifier.isPrivate(method.getModifiers()));
                check.holds(method + " has a name of its own", !publicNames.contains(method.getName()));
            }
        }
        check.holds("the document's methods and no others: " + got, got.equals(due));
        for (Constructor<?> made : c.getDeclaredConstructors()) {
            check.holds(made + " is the only one", Modifier.isPublic(made.getModifiers()) && made.getParameterCount() == 0);
        }
        for (Field field : c.getDeclaredFields()) {
            check.holds(field + " is private", Modifier.isPrivate(field.getModifiers()));
        }
        sizes(c);
    }

    private void inside(Class<?> c) {
        check.holds(c + " is static", Modifier.isStatic(c.getModifiers()));
        check.holds(c + " is not public", !Modifier.isPublic(c.getModifiers()) && !Modifier.isProtected(c.getModifiers()));
        sizes(c);
    }

    private void sizes(Class<?> c) {
        int fields = 0;
        for (Field field : c.getDeclaredFields()) {
            boolean still = Modifier.isStatic(field.getModifiers());
            check.holds(field + " is final, if static", !still || Modifier.isFinal(field.getModifiers()));
            fields += still ? 0 : 1;
        }
        check.holds(c + " has few fields", fields <= 20);
        for (Method method : c.getDeclaredMethods()) {
            check.holds(method + " takes few parameters", method.getParameterCount() <= 7);
        }
    }

    private void source() throws IOException {
        String text = Files.readString(SOURCE);
        check.holds("signs 10 and 32 to 126 alone", text.chars().allMatch(c -> c == '\n' || c >= 32 && c <= 126));
        String code = text.replaceAll("(?s)/\\*.*?\\*/", "").replaceAll("//[^\n]*", "").replaceAll("\"[^\"\n]*\"", "\"\"");
        String[] without = {"package", "import", "throw", "throws", "try", "catch", "finally", "synchronized", "assert",
            "Object", "System", "Exception", "protected", "float", "double", "Thread", "var", "yield", "goto"};
        for (String word : without) {
            check.holds("without " + word, !Pattern.compile("\\b" + word + "\\b").matcher(code).find());
        }
        for (String sign : new String[] {"->", "::", "Exact(", "...", "@"}) {
            check.holds("without " + sign, !code.contains(sign));
        }
        check.holds("at most twelve classes", code.split("\\bclass\\b").length - 1 <= 12);
        methodLengths(code);
    }

    private void methodLengths(String code) {
        int begun = -1;
        String[] lines = code.split("\n");
        String closing = "";
        for (int i = 0; i < lines.length; i++) {
            Matcher m = Pattern.compile("^( +)[\\w\\[\\] ]*\\w+\\([^;]*\\) \\{$").matcher(lines[i]);
            if (begun < 0 && m.matches()) {
                begun = i;
                closing = m.group(1) + "}";
            } else if (begun >= 0 && lines[i].equals(closing)) {
                check.holds("short: " + lines[begun].trim(), i - begun < 60);
                begun = -1;
            }
        }
    }
}
