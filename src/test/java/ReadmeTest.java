import java.io.IOException;
import java.lang.reflect.Field;
import java.lang.reflect.Method;
import java.lang.reflect.Modifier;
import java.nio.file.Files;
import java.nio.file.Path;
import java.util.Set;
import java.util.TreeSet;
import java.util.regex.Matcher;
import java.util.regex.Pattern;

/** Makes the calls of the example in README.md, and looks for the answers written beside them. */
public final class ReadmeTest extends Bench {
    private static final String FIRST_LINE = "AffixSpeller speller = new AffixSpeller();";
    private static final Pattern LINE =
        Pattern.compile("speller\\.(\\w+)\\(([^()]*)\\);(?: +// answers (\\w+).*)?");

    private static final Set<String> called = new TreeSet<>();

    private static void complain(String what) {
        wrong++;
        System.out.println("README.md: " + what);
    }

    private static String example(String readme) {
        String opening = "```java\n";
        int from = readme.indexOf(opening);
        int to = readme.indexOf("```", from + opening.length());
        return from < 0 || to < 0 ? "" : readme.substring(from + opening.length(), to);
    }

    private static Object call(AffixSpeller x, String name, String list) throws ReflectiveOperationException {
        String[] texts = list.isEmpty() ? new String[0] : list.split(", ");
        Object[] values = new Object[texts.length];
        Class<?>[] types = new Class<?>[texts.length];
        for (int i = 0; i < texts.length; i++) {
            boolean mark = texts[i].equals("true") || texts[i].equals("false");
            values[i] = mark ? (Object) Boolean.valueOf(texts[i]) : Integer.valueOf(texts[i]);
            types[i] = mark ? boolean.class : int.class;
        }
        called.add(name);
        return AffixSpeller.class.getMethod(name, types).invoke(x, values);
    }

    private static int number(String answer) throws ReflectiveOperationException {
        boolean named = Character.isLetter(answer.charAt(0));
        return named ? AffixSpeller.class.getField(answer).getInt(null) : Integer.parseInt(answer);
    }

    private static void follow(AffixSpeller x, String line) throws ReflectiveOperationException {
        Matcher parts = LINE.matcher(line);
        if (!parts.matches()) {
            complain("not a call: " + line);
            return;
        }
        Object got = call(x, parts.group(1), parts.group(2));
        if (parts.group(3) != null && !Integer.valueOf(number(parts.group(3))).equals(got)) {
            complain(line + " answered " + got);
        }
    }

    private static void followAll(String example) throws ReflectiveOperationException {
        AffixSpeller x = new AffixSpeller();
        for (String line : example.split("\n")) {
            if (!line.isBlank() && !line.startsWith("//") && !line.equals(FIRST_LINE)) {
                follow(x, line);
            }
        }
    }

    private static void dueWholeFace(String readme) {
        for (Method m : AffixSpeller.class.getDeclaredMethods()) {
            if (Modifier.isPublic(m.getModifiers())) {
                if (!called.contains(m.getName())) {
                    complain("the example does not call " + m.getName());
                }
                if (!readme.contains("`" + m.getName() + "(")) {
                    complain("no word on " + m.getName());
                }
            }
        }
        for (Field f : AffixSpeller.class.getFields()) {
            if (!readme.contains("`" + f.getName() + "`")) {
                complain("no word on " + f.getName());
            }
        }
    }

    public static void main(String[] args) throws IOException, ReflectiveOperationException {
        String readme = Files.readString(Path.of("README.md"));
        followAll(example(readme));
        dueWholeFace(readme);
        finish("the example in README.md answers as it says");
    }
}
