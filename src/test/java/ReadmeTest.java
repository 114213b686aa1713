import java.io.IOException;
import java.lang.reflect.Method;
import java.lang.reflect.Modifier;
import java.nio.file.DirectoryStream;
import java.nio.file.Files;
import java.nio.file.Path;
import java.util.HashMap;
import java.util.Map;
import java.util.regex.Matcher;
import java.util.regex.Pattern;

/** README.md: each example answers as it says there, and the page names every call of the face and every test. */
public final class ReadmeTest {
    private static final Check check = new Check();
    private static final Path README = Path.of("README.md");
    private static final Path TESTS = Path.of("src/test/java");
    private static final Pattern EXAMPLE = Pattern.compile("```java\n(.*?)```", Pattern.DOTALL);
    private static final Pattern NEW = Pattern.compile("WishLine house = new WishLine\\(\\);");
    private static final Pattern CALL = Pattern.compile(
            "(?:int (\\w+) = )?house\\.(\\w+)\\(([^)]*)\\);\\s*// (-?\\d+)(?:: .*)?");

    private static WishLine house;
    private static final Map<String, Integer> named = new HashMap<>();

    public static void main(String[] args) throws IOException, ReflectiveOperationException {
        String page = Files.readString(README);
        int examples = 0;
        Matcher example = EXAMPLE.matcher(page);
        while (example.find()) {
            examples++;
            for (String row : example.group(1).split("\n")) {
                play(row);
            }
        }
        check.due("there is an example", examples > 0 ? 1 : 0, 1);
        namesEveryCall(page);
        namesEveryTest(page);
        check.end();
    }

    private static void play(String row) throws ReflectiveOperationException {
        if (NEW.matcher(row).matches()) {
            house = new WishLine();
            named.clear();
            return;
        }
        Matcher call = CALL.matcher(row);
        boolean isCall = house != null && call.matches();
        check.due("a call with its answer: " + row, isCall ? 1 : 0, 1);
        if (isCall) {
            int got = answer(call.group(2), call.group(3));
            check.due(row, got, Integer.parseInt(call.group(4)));
            if (call.group(1) != null) {
                named.put(call.group(1), got);
            }
        }
    }

    private static int answer(String name, String given) throws ReflectiveOperationException {
        Method method = methodNamed(name);
        Class<?>[] types = method.getParameterTypes();
        String[] texts = given.isEmpty() ? new String[0] : given.split(", ");
        Object[] values = new Object[texts.length];
        for (int i = 0; i < texts.length; i++) {
            boolean isNumber = i < types.length && types[i] == int.class;
            values[i] = isNumber ? (Object) number(texts[i]) : (Object) Boolean.valueOf(texts[i]);
        }
        return (Integer) method.invoke(house, values);
    }

    private static Method methodNamed(String name) throws NoSuchMethodException {
        for (Method method : WishLine.class.getDeclaredMethods()) {
            if (method.getName().equals(name) && Modifier.isPublic(method.getModifiers())) {
                return method;
            }
        }
        throw new NoSuchMethodException(name);
    }

    private static int number(String text) {
        if (named.containsKey(text)) {
            return named.get(text);
        }
        return text.startsWith("0b") ? Integer.parseInt(text.substring(2), 2) : Integer.parseInt(text);
    }

    /** In the tables, with as many arguments as it takes. */
    private static void namesEveryCall(String page) {
        for (Method method : WishLine.class.getDeclaredMethods()) {
            if (Modifier.isPublic(method.getModifiers())) {
                int takes = method.getParameterCount();
                String given = takes == 0 ? "" : "\\w+" + ", \\w+".repeat(takes - 1);
                boolean found = Pattern.compile("`" + method.getName() + "\\(" + given + "\\)`").matcher(page).find();
                check.due("the page names " + method.getName(), found ? 1 : 0, 1);
            }
        }
    }

    private static void namesEveryTest(String page) throws IOException {
        try (DirectoryStream<Path> files = Files.newDirectoryStream(TESTS, "*Test.java")) {
            for (Path file : files) {
                String name = file.getFileName().toString().replace(".java", "");
                check.due("the page names " + name, page.contains("| " + name + " |") ? 1 : 0, 1);
            }
        }
    }
}
