import java.lang.reflect.Method;
import java.lang.reflect.Modifier;
import java.nio.file.Files;
import java.nio.file.Path;
import java.util.List;
import java.util.regex.Matcher;
import java.util.regex.Pattern;
import java.util.stream.Stream;

/** README.md's examples answer what stands behind them; it names every call and every test. */
public final class ReadmeTest {
    private static final Pattern CALL = Pattern.compile("x\\.(\\w+)\\(([^)]*)\\);\\s*// (-?\\w+)( .*)?");

    private static int checks = 0;
    private static int wrong = 0;

    private static void check(boolean holds, String what) {
        checks++;
        if (!holds) {
            wrong++;
            System.out.println(what);
        }
    }

    public static void main(String[] args) throws Exception {
        String page = Files.readString(Path.of("README.md"));
        runExamples(page);
        namesEveryCall(page);
        namesEveryTest(page);
        System.out.println(checks + " checks, " + wrong + " wrong");
        if (wrong != 0) {
            System.exit(1);
        }
    }

    private static void runExamples(String page) throws Exception {
        String[] parts = page.split("```java\n");
        check(parts.length > 1, "README.md has no example");
        for (int i = 1; i < parts.length; i++) {
            WhoIsWho x = null;
            for (String line : parts[i].split("```")[0].split("\n")) {
                if (line.equals("WhoIsWho x = new WhoIsWho();")) {
                    x = new WhoIsWho();
                } else {
                    runLine(x, line);
                }
            }
        }
    }

    private static void runLine(WhoIsWho x, String line) throws Exception {
        Matcher call = CALL.matcher(line);
        if (x == null || !call.matches()) {
            check(false, "README.md has a line that is no call with an answer: " + line);
            return;
        }
        List<Integer> with = Stream.of(call.group(2).split(", *")).filter(s -> !s.isEmpty())
                .map(Integer::valueOf).toList();
        Class<?>[] ints = new Class<?>[with.size()];
        java.util.Arrays.fill(ints, int.class);
        int got = (int) WhoIsWho.class.getMethod(call.group(1), ints).invoke(x, with.toArray());
        check(got == number(call.group(3)), "README.md: " + line + " answered " + got);
    }

    private static int number(String answer) throws Exception {
        boolean named = Character.isLetter(answer.charAt(0));
        return named ? WhoIsWho.class.getField(answer).getInt(null) : Integer.parseInt(answer);
    }

    private static void namesEveryCall(String page) {
        for (Method m : WhoIsWho.class.getDeclaredMethods()) {
            if (Modifier.isPublic(m.getModifiers())) {
                check(page.contains("`" + m.getName() + "("), "README.md does not name " + m);
            }
        }
    }

    private static void namesEveryTest(String page) throws Exception {
        try (Stream<Path> files = Files.list(Path.of("src/test/java"))) {
            for (Path file : files.toList()) {
                check(page.contains("`" + file.toString().replace('\\', '/') + "`"),
                        "README.md does not name " + file);
            }
        }
        check(page.contains(".ci/run"), "README.md does not tell how to run the tests");
    }
}
