import java.lang.reflect.Method;
import java.lang.reflect.Modifier;
import java.nio.file.Files;
import java.nio.file.Path;
import java.util.List;
import java.util.regex.Matcher;
import java.util.regex.Pattern;

/** README.md tells the truth: its example answers as it says, and it names every call and every test. */
public final class ReadmeTest {
    private static final Pattern CALL = Pattern.compile("^town\\.(\\w+)\\((.*?)\\);\\s+// (-?\\d+)\\b");
    private static int wrong = 0;

    private static void check(boolean holds, String what) {
        if (!holds) {
            wrong++;
            System.out.println("README: " + what);
        }
    }

    public static void main(String[] args) throws Exception {
        String page = Files.readString(Path.of("README.md"));
        runExample(page);
        runLetters(page);
        for (Method method : StrengthenFirst.class.getDeclaredMethods()) {
            if (Modifier.isPublic(method.getModifiers())) {
                check(page.contains("`" + method.getName() + "("), "doesn't name " + method.getName());
            }
        }
        try (var files = Files.list(Path.of("src/test/java"))) {
            for (Path file : (Iterable<Path>) files::iterator) {
                String name = file.getFileName().toString().replace(".java", "");
                check(page.contains("`" + name + "`"), "doesn't name " + name);
            }
        }
        if (wrong != 0) {
            System.exit(1);
        }
        System.out.println("the page tells the truth");
    }

    private static void runExample(String page) throws Exception {
        StrengthenFirst town = new StrengthenFirst();
        int calls = 0;
        for (String line : page.split("\n")) {
            Matcher call = CALL.matcher(line);
            if (call.find()) {
                calls++;
                check(answer(town, call.group(1), call.group(2)) == Long.parseLong(call.group(3)), line);
            } else {
                check(!line.startsWith("town."), "a call without its answer: " + line);
            }
        }
        check(calls >= 15, "has an example of " + calls + " calls");
    }

    private static long answer(StrengthenFirst town, String name, String given) throws Exception {
        List<String> numbers = given.isEmpty() ? List.of() : List.of(given.split(", "));
        Class<?>[] types = new Class<?>[numbers.size()];
        Object[] values = new Object[numbers.size()];
        for (int i = 0; i < values.length; i++) {
            types[i] = int.class;
            values[i] = Integer.valueOf(numbers.get(i));
        }
        return ((Number) StrengthenFirst.class.getMethod(name, types).invoke(town, values)).longValue();
    }

    /** The town in letters is the example's town. */
    private static void runLetters(String page) {
        Matcher letters = Pattern.compile("^street 0 1;.*$", Pattern.MULTILINE).matcher(page);
        if (!letters.find()) {
            check(false, "has no town in letters");
            return;
        }
        StrengthenFirst town = new StrengthenFirst();
        town.row(0, 0, letters.group().length());
        for (int i = 0; i < letters.group().length(); i++) {
            town.set(0, i, letters.group().charAt(i));
        }
        check(town.town(0) == 5, "its town in letters is none");
        check(town.mean() == 1403400, "its town in letters is another one");
    }
}
