import java.lang.reflect.Method;
import java.lang.reflect.Modifier;
import java.nio.file.Files;
import java.nio.file.Path;
import java.util.Set;
import java.util.TreeSet;
import java.util.regex.Matcher;
import java.util.regex.Pattern;

/** The examples of README.md: each call answers what stands behind it, and no call of the face is left out. */
public final class ReadmeTest {
    private static final String BEGINNING = "StrangerSigns x = new StrangerSigns();";
    private static final Pattern BLOCK = Pattern.compile("(?s)```java\n(.*?)```");
    private static final Pattern CALL = Pattern.compile("x\\.(\\w+)\\((.*?)\\); +// (-?\\d+|[A-Z]+)(:.*)?");
    private static final Pattern TEXT = Pattern.compile("text\\(x, \"(.*?)\"\\); +// (-?\\d+)(:.*)?");
    private static final Due due = new Due();
    private static final Set<String> called = new TreeSet<>();

    public static void main(String[] args) throws Exception {
        Matcher blocks = BLOCK.matcher(Files.readString(Path.of("README.md")));
        boolean helped = false;
        while (blocks.find()) {
            if (blocks.group(1).startsWith(BEGINNING)) {
                example(blocks.group(1).substring(BEGINNING.length()).trim().split("\n"));
            } else {
                due.holds("one helper alone is no example", !helped);
                helper(blocks.group(1));
                helped = true;
            }
        }
        Set<String> face = new TreeSet<>();
        for (Method method : StrangerSigns.class.getDeclaredMethods()) {
            if (Modifier.isPublic(method.getModifiers())) {
                face.add(method.getName());
            }
        }
        face.removeAll(called);
        due.holds("calls without an example: " + face, face.isEmpty());
        due.end();
    }

    private static void example(String[] lines) throws Exception {
        StrangerSigns x = new StrangerSigns();
        for (String line : lines) {
            Matcher call = CALL.matcher(line);
            Matcher text = TEXT.matcher(line);
            if (call.matches()) {
                due.is(line, answer(x, call.group(1), call.group(2)), number(call.group(3)));
            } else if (text.matches()) {
                due.is(line, Houses.text(x, text.group(1)), number(text.group(2)));
            } else {
                due.holds("a call and its answer: " + line, false);
            }
        }
    }

    private static int answer(StrangerSigns x, String name, String arguments) throws Exception {
        called.add(name);
        String[] given = arguments.isEmpty() ? new String[0] : arguments.split(", ");
        for (Method method : StrangerSigns.class.getDeclaredMethods()) {
            if (method.getName().equals(name) && method.getParameterCount() == given.length) {
                Object[] values = new Object[given.length];
                for (int i = 0; i < given.length; i++) {
                    boolean isInt = method.getParameterTypes()[i] == int.class;
                    values[i] = isInt ? (Object) Integer.valueOf(given[i]) : (Object) Boolean.valueOf(given[i]);
                }
                return (int) method.invoke(x, values);
            }
        }
        due.holds("there is a call " + name + "(" + arguments + ")", false);
        return 0;
    }

    private static int number(String told) throws Exception {
        boolean isName = Character.isUpperCase(told.charAt(0));
        return isName ? StrangerSigns.class.getField(told).getInt(null) : Integer.parseInt(told);
    }

    /** The helper makes three kinds of calls; it must be the one that the tests have, written in one. */
    private static void helper(String code) throws Exception {
        String houses = Files.readString(Path.of("src/test/java/Houses.java"));
        int from = houses.indexOf("int[] numbers");
        String feeding = houses.substring(from, houses.indexOf("}\n\n", from));
        String whole = "static int text(StrangerSigns x, String text) {" + feeding + "return x.text();}";
        due.holds("the helper is as in Houses.java", code.replaceAll("\\s+", "").equals(whole.replaceAll("\\s+", "")));
        called.add("feed");
        called.add("trim");
        called.add("text");
    }
}
