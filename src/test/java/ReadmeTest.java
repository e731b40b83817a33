import java.io.File;
import java.lang.reflect.Method;
import java.lang.reflect.Modifier;
import java.nio.file.Files;
import java.nio.file.Path;
import java.util.ArrayList;
import java.util.List;
import java.util.regex.Matcher;
import java.util.regex.Pattern;

/** README.md: its example answers as it says there, and it names each call and each test. */
public final class ReadmeTest {
    private static final Check CHECK = new Check("ReadmeTest");
    private static final Pattern BLOCK = Pattern.compile("```java\n(.*?)```", Pattern.DOTALL);
    private static final Pattern CALL = Pattern.compile("sand\\.(\\w+)\\((.*?)\\); +// (-?\\d+)(: .*)?");
    private static final String MADE = "SandGroup sand = new SandGroup();";

    public static void main(String[] args) throws Exception {
        String readme = Files.readString(Path.of("README.md"));
        Matcher block = BLOCK.matcher(readme);
        CHECK.holds("there is an example", block.find());
        example(block.group(1).split("\n"));
        CHECK.holds("there is one example alone", !block.find());
        namesCalls(readme);
        namesTests(readme);
        CHECK.end();
    }

    private static void example(String[] lines) throws Exception {
        CHECK.holds("it begins with an object", lines[0].equals(MADE));
        SandGroup sand = new SandGroup();
        for (int i = 1; i < lines.length; i++) {
            if (!lines[i].isEmpty()) {
                answers(sand, lines[i]);
            }
        }
    }

    private static void answers(SandGroup sand, String line) throws Exception {
        Matcher call = CALL.matcher(line);
        if (!call.matches()) {
            CHECK.holds("this is a call and its answer: " + line, false);
            return;
        }
        Method method = callOf(call.group(1));
        String[] texts = call.group(2).isEmpty() ? new String[0] : call.group(2).split(", ");
        Object[] values = new Object[texts.length];
        for (int i = 0; i < texts.length; i++) {
            values[i] = valueOf(texts[i]);
        }
        Number answer = (Number) method.invoke(sand, values);
        CHECK.due(line, answer.longValue(), Long.parseLong(call.group(3)));
    }

    private static Object valueOf(String text) {
        if (text.equals("true") || text.equals("false")) {
            return Boolean.valueOf(text);
        }
        return text.startsWith("'") ? (int) text.charAt(1) : Integer.parseInt(text);
    }

    private static Method callOf(String name) {
        for (Method method : calls()) {
            if (method.getName().equals(name)) {
                return method;
            }
        }
        throw new IllegalStateException("there is no call " + name);
    }

    private static List<Method> calls() {
        List<Method> calls = new ArrayList<>();
        for (Method method : SandGroup.class.getDeclaredMethods()) {
            if (Modifier.isPublic(method.getModifiers())) {
                calls.add(method);
            }
        }
        return calls;
    }

    private static void namesCalls(String readme) {
        for (Method method : calls()) {
            CHECK.holds("it names the call " + method.getName(), readme.contains("`" + method.getName() + "`"));
        }
    }

    private static void namesTests(String readme) {
        String[] files = new File("src/test/java").list((folder, name) -> name.endsWith("Test.java"));
        CHECK.holds("there are tests", files != null && files.length > 0);
        for (String file : files) {
            String name = file.replace(".java", "");
            CHECK.holds("it names " + name, Pattern.compile("(\\| |, )" + name + "( \\||,)").matcher(readme).find());
        }
    }
}
