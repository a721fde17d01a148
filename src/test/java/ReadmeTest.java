import java.io.IOException;
import java.lang.reflect.InvocationTargetException;
import java.lang.reflect.Method;
import java.nio.file.DirectoryStream;
import java.nio.file.Files;
import java.nio.file.Path;
import java.util.ArrayList;
import java.util.List;
import java.util.regex.Matcher;
import java.util.regex.Pattern;

/** README.md is true: each call that it shows answers what stands behind it, and each test that there is is told. */
public final class ReadmeTest {
    private static final Path PAGE = Path.of("README.md");
    private static final Path TESTS = Path.of("src/test/java");
    private static final Pattern BLOCK = Pattern.compile("(?s)```(java|text)\n(.*?)```");
    private static final Pattern CALL = Pattern.compile("rota\\.(\\w+)\\(([^)]*)\\); // (-?\\w+): \\S.*|rota\\.(\\w+)\\(.*");
    private static final int LEAST_CALLS = 25;
    private static int wrong = 0;
    private static int calls = 0;

    private ReadmeTest() {
    }

    private static void must(boolean holds, String what) {
        if (!holds) {
            wrong++;
            System.out.println("README.md: " + what);
        }
    }

    private static Method called(String name) {
        for (Method method : EvenRota.class.getMethods()) {
            if (method.getName().equals(name)) {
                return method;
            }
        }
        return null;
    }

    private static Object read(Class<?> type, String text) {
        if (type == boolean.class) {
            return Boolean.valueOf(text);
        }
        return type == long.class ? (Object) Long.decode(text) : (Object) Integer.decode(text);
    }

    private static void check(EvenRota rota, String line) throws IllegalAccessException, InvocationTargetException {
        Matcher told = CALL.matcher(line);
        boolean known = told.matches() && told.group(1) != null;
        must(known || !line.startsWith("rota."), "no answer stands behind '" + line + "'");
        if (!known) {
            return;
        }
        Method method = called(told.group(1));
        List<Object> given = new ArrayList<>();
        String[] texts = told.group(2).isEmpty() ? new String[0] : told.group(2).split(", ");
        must(method != null && method.getParameterCount() == texts.length, "there is no such call: " + line);
        if (method == null || method.getParameterCount() != texts.length) {
            return;
        }
        for (int n = 0; n < texts.length; n++) {
            given.add(read(method.getParameterTypes()[n], texts[n]));
        }
        calls++;
        String answer = String.valueOf(method.invoke(rota, given.toArray()));
        must(answer.equals(told.group(3)), line + " answers " + answer);
    }

    private static void checkCalls(String page) throws IllegalAccessException, InvocationTargetException {
        EvenRota rota = new EvenRota();
        Matcher block = BLOCK.matcher(page);
        while (block.find()) {
            rota = new EvenRota();
            if (block.group(1).equals("text")) {
                Feeding.put(rota, block.group(2));
                must(block.find() && block.group(1).equals("java"), "calls behind the longer house");
            }
            for (String line : block.group(2).split("\n")) {
                check(rota, line);
            }
        }
        must(calls >= LEAST_CALLS, "only " + calls + " calls are shown");
    }

    private static void checkTests(String page) throws IOException {
        try (DirectoryStream<Path> files = Files.newDirectoryStream(TESTS, "*.java")) {
            for (Path file : files) {
                String name = file.getFileName().toString().replace(".java", "");
                must(page.contains("`" + name + "`"), name + " is not told");
            }
        }
        Matcher name = Pattern.compile("`([A-Z]\\w*(Test|Edges|Runs|Calls|Rota))`").matcher(page);
        while (name.find()) {
            must(name.group(1).equals("EvenRota") || Files.exists(TESTS.resolve(name.group(1) + ".java")),
                "there is no " + name.group(1));
        }
    }

    public static void main(String[] args) throws IOException, IllegalAccessException, InvocationTargetException {
        String page = Files.readString(PAGE);
        checkCalls(page);
        checkTests(page);
        System.out.println("ReadmeTest: " + calls + " calls, " + wrong + " wrong");
        System.exit(wrong == 0 ? 0 : 1);
    }
}
