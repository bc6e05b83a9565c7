import java.lang.reflect.Method;
import java.lang.reflect.Modifier;
import java.nio.charset.StandardCharsets;
import java.nio.file.Files;
import java.nio.file.Path;
import java.util.ArrayList;
import java.util.List;
import java.util.Set;
import java.util.TreeSet;
import java.util.regex.Matcher;
import java.util.regex.Pattern;

/** Looks through the class for what ../shared/LANGUAGE.md rules out and a search can see. */
public final class LanguageTest {
    private static final String[] FORBIDDEN = {
        "\\bcatch\\b", "\\btry\\b", "\\bfinally\\b", "\\bassert\\b", "\\bsynchronized\\b", "\\bthrow\\b",
        "->", "::", "\\bstatic\\s*\\{", "\\bprotected\\b", "Exact\\(", "\\bSystem\\.(?!arraycopy)",
        "\\bequals\\(", "\\bhashCode\\(", "\\btoString\\(", "^package\\b", "\\bRandom\\b", "\\bThread\\b",
        "\\bMath\\.(?!max|min|abs|floorDiv|floorMod)", "\\bString\\.", "\\bHashMap\\b", "\\bvar\\b",
    };
    private static final String FACE =
        "row set copy element rule holds says street house houses houseOf front next alter prop shake ask town fault "
        + "falls cut lost dead shuts mean worth which order plan steps judge best first gap bound head narrow years "
        + "seed act trace image restore status";

    private static int wrong = 0;

    private static void check(boolean holds, String what) {
        if (!holds) {
            wrong++;
            System.out.println("LANGUAGE: " + what);
        }
    }

    public static void main(String[] args) throws Exception {
        Path file = Path.of("src/main/java/StrengthenFirst.java");
        byte[] bytes = Files.readAllBytes(file);
        for (byte b : bytes) {
            check(b == '\n' || b >= 32, "a sign that is no plain one: " + b);
        }
        String whole = new String(bytes, StandardCharsets.ISO_8859_1);
        String code = withoutComments(whole);
        for (String pattern : FORBIDDEN) {
            Matcher found = Pattern.compile(pattern, Pattern.MULTILINE).matcher(code);
            check(!found.find(), "there is " + pattern);
        }
        Matcher imports = Pattern.compile("^import (.*);", Pattern.MULTILINE).matcher(code);
        while (imports.find()) {
            check(imports.group(1).equals("java.util.Arrays"), "imports " + imports.group(1));
        }
        checkFace();
        checkPrivateNames(code);
        checkLengths(code);
        if (wrong != 0) {
            System.exit(1);
        }
        System.out.println("the language is kept, as far as a search can see");
    }

    private static String withoutComments(String text) {
        return text.replaceAll("(?s)/\\*.*?\\*/", "").replaceAll("//[^\\n]*", "");
    }

    private static void checkFace() {
        Set<String> face = new TreeSet<>(List.of(FACE.split(" ")));
        Set<String> has = new TreeSet<>();
        for (Method method : StrengthenFirst.class.getDeclaredMethods()) {
            if (Modifier.isPublic(method.getModifiers())) {
                has.add(method.getName());
            } else {
                check(Modifier.isPrivate(method.getModifiers()), method.getName() + " is neither public nor private");
            }
        }
        check(has.equals(face), "the face is " + has);
        for (var field : StrengthenFirst.class.getDeclaredFields()) {
            boolean constant = field.getName().equals("NONE");
            check(constant == Modifier.isPublic(field.getModifiers()), field.getName() + " is public or isn't");
            check(constant || Modifier.isPrivate(field.getModifiers()), field.getName() + " isn't private");
        }
        for (Class<?> inside : StrengthenFirst.class.getDeclaredClasses()) {
            check(Modifier.isStatic(inside.getModifiers()), inside.getName() + " isn't static");
            int fields = 0;
            for (var field : inside.getDeclaredFields()) {
                fields += Modifier.isStatic(field.getModifiers()) ? 0 : 1;
            }
            check(fields <= 20, inside.getName() + " has " + fields + " fields");
        }
        check(StrengthenFirst.class.getDeclaredClasses().length <= 11, "too many classes");
    }

    private static void checkPrivateNames(String code) {
        Set<String> face = new TreeSet<>(List.of(FACE.split(" ")));
        Matcher methods = Pattern.compile("^ +(private |static |final )*(int|long|boolean|void|String) (\\w+)\\(",
            Pattern.MULTILINE).matcher(code);
        while (methods.find()) {
            check(!face.contains(methods.group(3)), methods.group(3) + " bears the name of a public method");
        }
    }

    private static void checkLengths(String code) {
        List<Integer> open = new ArrayList<>();
        String[] lines = code.split("\n");
        for (int i = 0; i < lines.length; i++) {
            if (lines[i].matches("^( {4}| {8})[\\w\\[\\]].*\\) \\{$")) {
                open.add(i);
                String parameters = lines[i].substring(lines[i].indexOf('('));
                check(parameters.split(",").length <= 7, "too many parameters: " + lines[i]);
            } else if (lines[i].matches("^( {4}| {8})\\}$") && !open.isEmpty()) {
                int start = open.remove(open.size() - 1);
                check(i - start <= 60, "a long method: " + lines[start]);
                open.clear();
            }
        }
    }
}
