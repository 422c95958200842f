import java.lang.reflect.InvocationTargetException;
import java.lang.reflect.Method;
import java.lang.reflect.Modifier;
import java.nio.file.Files;
import java.nio.file.Path;
import java.util.regex.Matcher;
import java.util.regex.Pattern;

/** Makes the calls that README.md shows, and compares the answers with those that it tells. */
public final class ReadmeTest {
    private static final Pattern SHOWN = Pattern.compile("x\\.(\\w+)\\(([-0-9, ]*)\\);\\s*// (-?\\d+): .*");
    private static final Pattern TOLD = Pattern.compile("for \\(char c : \"([^\"]*)\"\\.toCharArray\\(\\)\\) x\\.letter\\(c\\);");
    private static int right = 0;
    private static int wrong = 0;

    private static void due(String call, long got, long want) {
        if (got == want) {
            right++;
        } else {
            wrong++;
            System.out.println("README.md: " + call + " answered " + got + ", due is " + want);
        }
    }

    public static void main(String[] args) throws Exception {
        String page = Files.readString(Path.of("README.md"));
        example(page);
        names(page);
        System.out.println(right + " passed, " + wrong + " failed");
        if (wrong != 0) System.exit(1);
    }

    private static void example(String page) throws Exception {
        int begin = page.indexOf("```java\n");
        int end = page.indexOf("```\n", begin + 8);
        due("the example is there", begin >= 0 && end > begin ? 1 : 0, 1);
        if (begin < 0 || end < begin) return;
        GritIsIssued x = null;
        for (String line : page.substring(begin + 8, end).split("\n")) {
            Matcher told = TOLD.matcher(line);
            Matcher shown = SHOWN.matcher(line);
            if (line.equals("GritIsIssued x = new GritIsIssued();")) {
                x = new GritIsIssued();
            } else if (told.matches()) {
                for (char c : told.group(1).toCharArray()) x.letter(c);
            } else if (shown.matches()) {
                due(line, answer(x, shown.group(1), shown.group(2)), Long.parseLong(shown.group(3)));
            } else {
                due("a line that can't be read: " + line, 0, 1);
            }
        }
    }

    private static long answer(GritIsIssued x, String name, String numbers) throws IllegalAccessException, InvocationTargetException {
        String[] texts = numbers.isEmpty() ? new String[0] : numbers.split(", ");
        Object[] values = new Object[texts.length];
        for (int i = 0; i < texts.length; i++) values[i] = Integer.parseInt(texts[i]);
        for (Method method : GritIsIssued.class.getDeclaredMethods()) {
            if (!method.getName().equals(name) || !Modifier.isPublic(method.getModifiers())) continue;
            return ((Number) method.invoke(x, values)).longValue();
        }
        throw new IllegalStateException("no call " + name);
    }

    private static void names(String page) {
        for (Method method : GritIsIssued.class.getDeclaredMethods()) {
            if (!Modifier.isPublic(method.getModifiers())) continue;
            due("it names " + method.getName(), page.contains("`" + method.getName() + "`") ? 1 : 0, 1);
        }
        due("it says how to run the tests", page.contains("`bash .ci/run`") ? 1 : 0, 1);
        for (String test : new java.io.File("src/test/java").list()) {
            due("it names " + test, page.contains("`" + test.replace(".java", "") + "`") ? 1 : 0, 1);
        }
    }
}
