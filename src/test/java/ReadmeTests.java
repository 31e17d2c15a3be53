import java.lang.reflect.Field;
import java.lang.reflect.Method;
import java.lang.reflect.Modifier;
import java.nio.file.Files;
import java.nio.file.Path;
import java.util.regex.Matcher;
import java.util.regex.Pattern;

/** README.md: its example answers what its comments begin with, and it names the whole face. */
public final class ReadmeTests {
    private static int wrong = 0;

    private static void check(boolean holds, String what) {
        if (!holds) {
            wrong++;
            System.out.println("README.md: not so: " + what);
        }
    }

    private static String between(String text, String from, String to) {
        int start = text.indexOf(from);
        int end = start < 0 ? -1 : text.indexOf(to, start + from.length());
        check(end >= 0, "there is a part from '" + from.trim() + "' on");
        return end < 0 ? "" : text.substring(start + from.length(), end);
    }

    private static Method methodNamed(String name) {
        for (Method m : StampSheet.class.getDeclaredMethods()) {
            if (Modifier.isPublic(m.getModifiers()) && m.getName().equals(name)) {
                return m;
            }
        }
        throw new IllegalStateException("README.md calls " + name + ", which there isn't");
    }

    private static int answer(StampSheet table, String name, String numbers) throws ReflectiveOperationException {
        String[] words = numbers.isBlank() ? new String[0] : numbers.split(",");
        Object[] given = new Object[words.length];
        for (int i = 0; i < given.length; i++) {
            String word = words[i].trim();
            given[i] = word.equals("true") || word.equals("false") ? (Object) word.equals("true") : Integer.valueOf(word);
        }
        return (Integer) methodNamed(name).invoke(table, given);
    }

    private static void example(String readme) throws ReflectiveOperationException {
        Pattern call = Pattern.compile("table\\.(\\w+)\\((.*?)\\);\\s*// (-?\\d+)\\b.*");
        StampSheet table = null;
        int calls = 0;
        for (String line : between(readme, "```java\n", "```").split("\n")) {
            Matcher m = call.matcher(line);
            if (line.equals("StampSheet table = new StampSheet();")) {
                table = new StampSheet();
            } else if (table != null && m.matches()) {
                int got = answer(table, m.group(1), m.group(2));
                check(got == Integer.parseInt(m.group(3)), line + " (it answers " + got + ")");
                calls++;
            } else {
                check(false, "a line of the example without a call and its answer: " + line);
            }
        }
        check(calls > 0, "the example has calls");
    }

    private static void wholeFace(String readme) throws ReflectiveOperationException {
        String calls = between(readme, "## What the calls answer", "## What a refusal is");
        String table = calls.substring(calls.indexOf("| calls |") + 1);
        for (Method m : StampSheet.class.getDeclaredMethods()) {
            if (Modifier.isPublic(m.getModifiers())) {
                check(table.contains("`" + m.getName() + "`"), "it says what " + m.getName() + " answers");
            }
        }
        String refusals = between(readme, "## What a refusal is", "\n## ");
        for (Field f : StampSheet.class.getDeclaredFields()) {
            if (Modifier.isPublic(f.getModifiers())) {
                String row = "| `" + f.getName() + "` | " + f.get(null) + " |";
                check(refusals.contains(row), "it has the row " + row);
            }
        }
    }

    private static void everyTest(String readme) throws java.io.IOException {
        String tests = readme.substring(Math.max(0, readme.indexOf("## Running the tests")));
        check(tests.contains("\n    .ci/run\n"), "it says how to run the tests");
        try (var files = Files.list(Path.of("src/test/java"))) {
            files.map(file -> file.getFileName().toString().replace(".java", ""))
                .forEach(name -> check(tests.contains("- `" + name + "`"), "it says what " + name + " tests"));
        }
    }

    public static void main(String[] args) throws Exception {
        String readme = Files.readString(Path.of("README.md"));
        example(readme);
        wholeFace(readme);
        everyTest(readme);
        System.out.println(wrong == 0 ? "README.md is as the class is" : wrong + " things are not as due");
        if (wrong != 0) {
            System.exit(1);
        }
    }
}
