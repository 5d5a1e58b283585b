import java.io.IOException;
import java.lang.reflect.Method;
import java.lang.reflect.Modifier;
import java.nio.charset.StandardCharsets;
import java.nio.file.Files;
import java.nio.file.Path;
import java.util.List;
import java.util.Set;
import java.util.TreeSet;
import java.util.regex.Matcher;
import java.util.regex.Pattern;

/** Makes the calls of the examples in README.md, in their order, and compares what is answered with what stands there. */
public final class ReadmeTest {
    private static final Pattern NEW = Pattern.compile("SendRules rules = new SendRules\\(\\);");
    private static final Pattern TYPED = Pattern.compile("type\\(rules, \"([^\"\\\\]*)\"\\);");
    private static final Pattern CALL = Pattern.compile("rules\\.(\\w+)\\(([-0-9, ]*)\\); +// (-?\\d+|BAD|NO|FULL|NONE)\\b.*");

    private static final Set<String> called = new TreeSet<>();
    private static SendRules rules = null;
    private static int wrong = 0;

    private ReadmeTest() {
    }

    public static void main(String[] arguments) throws IOException, ReflectiveOperationException {
        List<String> lines = Files.readAllLines(Path.of("README.md"), StandardCharsets.UTF_8);
        boolean inBlock = false;
        boolean isHelper = false;
        for (String line : lines) {
            if (line.startsWith("```")) {
                inBlock = line.equals("```java");
                isHelper = false;
            } else if (inBlock) {
                // The block of the helper type() is written out below, in typed().
                isHelper |= line.startsWith("static ");
                if (!isHelper) {
                    follow(line);
                }
            }
        }
        everyMethodShown();
        System.out.println(wrong == 0 ? "the examples of README.md are as due" : wrong + " faults in README.md");
        System.exit(wrong == 0 ? 0 : 1);
    }

    private static void follow(String line) throws ReflectiveOperationException {
        Matcher typed = TYPED.matcher(line);
        Matcher call = CALL.matcher(line);
        if (NEW.matcher(line).matches()) {
            rules = new SendRules();
        } else if (rules == null) {
            fail("no object has been made before: " + line);
        } else if (typed.matches()) {
            typed(typed.group(1));
        } else if (call.matches()) {
            int got = answerOf(call.group(1), call.group(2));
            if (got != numberOf(call.group(3))) {
                fail(line + " -- answered " + got);
            }
        } else {
            fail("not understood: " + line);
        }
    }

    private static void typed(String text) {
        called.add("write");
        for (int k = 0; k < text.length(); k++) {
            rules.write(text.charAt(k));
        }
    }

    private static int answerOf(String name, String values) throws ReflectiveOperationException {
        called.add(name);
        String[] texts = values.isBlank() ? new String[0] : values.split(", ");
        Class<?>[] types = new Class<?>[texts.length];
        Object[] arguments = new Object[texts.length];
        for (int k = 0; k < texts.length; k++) {
            types[k] = int.class;
            arguments[k] = Integer.valueOf(texts[k]);
        }
        Method method = SendRules.class.getMethod(name, types);
        return (Integer) method.invoke(rules, arguments);
    }

    private static int numberOf(String answer) {
        switch (answer) {
            case "BAD":
                return SendRules.BAD;
            case "NO":
                return SendRules.NO;
            case "FULL":
                return SendRules.FULL;
            case "NONE":
                return SendRules.NONE;
            default:
                return Integer.parseInt(answer);
        }
    }

    private static void everyMethodShown() {
        for (Method method : SendRules.class.getDeclaredMethods()) {
            if (Modifier.isPublic(method.getModifiers()) && !called.contains(method.getName())) {
                fail("no example calls " + method.getName());
            }
        }
    }

    private static void fail(String what) {
        wrong++;
        System.out.println(what);
    }
}
