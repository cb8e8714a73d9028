import java.lang.reflect.Field;
import java.lang.reflect.Method;
import java.lang.reflect.Modifier;
import java.nio.file.Files;
import java.nio.file.Path;
import java.util.Arrays;
import java.util.HashSet;
import java.util.Set;
import java.util.TreeSet;
import java.util.regex.Matcher;
import java.util.regex.Pattern;

/** The face of the document, and the rules of LANGUAGE.md that can be seen in the file or the class. */
public final class LanguageTest {
    private static final Due due = new Due();

    public static void main(String[] args) throws Exception {
        face(Files.readString(Path.of("../shared/DOC.md")));
        members();
        String file = Files.readString(Path.of("src/main/java/StrangerSigns.java"));
        due.holds("the file's signs are 1 to 127", file.chars().allMatch(c -> c >= 1 && c <= 127));
        String code = withoutTexts(file);
        words(code);
        methodLengths(code);
        due.end();
    }

    private static void face(String document) {
        String told = document.substring(document.indexOf("public final class StrangerSigns {"), document.indexOf("## Terms"));
        Set<String> wanted = new TreeSet<>();
        Matcher m = Pattern.compile("public int (\\w+)\\(([^)]*)\\)").matcher(told);
        while (m.find()) {
            wanted.add(m.group(1) + "(" + m.group(2).replaceAll("(int|boolean) \\w+", "$1") + ")");
        }
        Set<String> found = new TreeSet<>();
        for (Method method : StrangerSigns.class.getDeclaredMethods()) {
            if (!Modifier.isPrivate(method.getModifiers())) {
                String types = String.join(", ", Arrays.stream(method.getParameterTypes()).map(Class::getName).toList());
                found.add(method.getName() + "(" + types + ")");
                due.holds(method + " gives an int", method.getReturnType() == int.class);
            }
        }
        due.is("methods of the document", wanted.size(), 49);
        due.holds("methods " + found + " as in the document " + wanted, found.equals(wanted));
        due.is("constructors", StrangerSigns.class.getConstructors().length, 1);
        due.holds("public and final", Modifier.isPublic(StrangerSigns.class.getModifiers()) && Modifier.isFinal(StrangerSigns.class.getModifiers()));
    }

    private static void members() {
        Set<String> constants = Set.of("BAD", "NO", "FULL", "NONE", "NOTHING", "KIND", "INDEX", "SIZE");
        Set<String> open = new HashSet<>();
        Set<String> publics = new HashSet<>();
        for (Field field : StrangerSigns.class.getDeclaredFields()) {
            if (!Modifier.isPrivate(field.getModifiers())) {
                open.add(field.getName());
            }
        }
        for (Method method : StrangerSigns.class.getDeclaredMethods()) {
            if (Modifier.isPublic(method.getModifiers())) {
                publics.add(method.getName());
            }
        }
        due.holds("fields that can be seen: " + open, open.equals(constants));
        Class<?>[] inside = StrangerSigns.class.getDeclaredClasses();
        due.holds("some twelve classes", inside.length + 1 <= 12);
        for (Class<?> type : inside) {
            due.holds(type + " is static", Modifier.isStatic(type.getModifiers()));
            due.holds(type + " is not public", !Modifier.isPublic(type.getModifiers()) && !Modifier.isProtected(type.getModifiers()));
            ofType(type);
            for (Method method : type.getDeclaredMethods()) {
                due.holds(method + " bears no public name", !publics.contains(method.getName()));
            }
        }
        ofType(StrangerSigns.class);
    }

    private static void ofType(Class<?> type) {
        int fields = 0;
        for (Field field : type.getDeclaredFields()) {
            if (Modifier.isStatic(field.getModifiers())) {
                due.holds(field + " is final", Modifier.isFinal(field.getModifiers()));
            } else {
                fields++;
            }
        }
        due.holds(type + " has some twenty fields", fields <= 20);
        for (Method method : type.getDeclaredMethods()) {
            due.holds(method + " has seven parameters at most", method.getParameterCount() <= 7);
            due.holds(method + " is written in the file", !method.isSynthetic());
        }
    }

    private static String withoutTexts(String code) {
        return code.replaceAll("(?s)/\\*.*?\\*/", "").replaceAll("//[^\n]*", "").replaceAll("\"[^\"\n]*\"", "\"\"").replaceAll("'.'", "' '");
    }

    private static void words(String code) {
        for (String word : new String[] {"throw", "throws", "try", "catch", "finally", "synchronized", "assert", "goto", "native", "var", "package", "Object",
            "lambda", "Exception", "hashCode", "toString", "Random", "Thread"}) {
            due.holds("no " + word, !Pattern.compile("\\b" + word + "\\b").matcher(code).find());
        }
        due.holds("no lambda", !code.contains("->"));
        due.holds("no method reference", !code.contains("::"));
        due.holds("no Exact", !code.contains("Exact"));
        due.holds("no annotation", !code.contains("@"));
        Matcher imports = Pattern.compile("import ([^;]+);").matcher(code);
        while (imports.find()) {
            due.holds("import of " + imports.group(1), imports.group(1).equals("java.util.Arrays"));
        }
        Set<String> library = Set.of("System.arraycopy", "Arrays.fill", "Arrays.copyOf", "Math.min", "Math.max", "Integer.bitCount");
        Matcher calls = Pattern.compile("\\b(System|Arrays|Math|Integer|Long|String)\\.\\w+").matcher(code);
        while (calls.find()) {
            due.holds("library's " + calls.group(), library.contains(calls.group()));
        }
    }

    private static void methodLengths(String code) {
        String[] lines = code.split("\n");
        for (int i = 0; i < lines.length; i++) {
            if (!lines[i].matches("    (    )?[a-z].*\\) \\{")) {
                continue;
            }
            String end = lines[i].replaceAll("\\S.*", "") + "}";
            int last = i;
            while (!lines[last].equals(end)) {
                last++;
            }
            due.holds("short: " + lines[i].trim(), last - i < 60);
        }
    }
}
