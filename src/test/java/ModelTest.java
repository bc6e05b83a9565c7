import java.lang.reflect.InvocationTargetException;
import java.lang.reflect.Method;
import java.util.ArrayList;
import java.util.Comparator;
import java.util.HashMap;
import java.util.List;
import java.util.Map;
import java.util.Random;

/** Runs of drawn calls: each answer of StrengthenFirst must be that of Model, and none may throw. */
public final class ModelTest {
    private static final int RUNS = Integer.getInteger("runs", 150);
    private static final int CALLS = 260;

    private final Random random;
    private final StrengthenFirst subject = new StrengthenFirst();
    private final Model model = new Model();
    private final List<String> calls = new ArrayList<>();
    private final boolean wild;
    private static final Map<String, Integer> FINE = new HashMap<>();
    private static final Map<String, Integer> REFUSED = new HashMap<>();

    private ModelTest(long seed) {
        random = new Random(seed);
        wild = random.nextInt(4) == 0;
    }

    public static void main(String[] args) throws Exception {
        for (int run = 0; run < RUNS; run++) {
            String wrong = new ModelTest(run + Integer.getInteger("from", 0)).run();
            if (wrong != null) {
                System.out.println("run " + run + ": " + wrong);
                System.exit(1);
            }
        }
        for (Method method : StrengthenFirst.class.getDeclaredMethods()) {
            if (java.lang.reflect.Modifier.isPublic(method.getModifiers()) && FINE.getOrDefault(method.getName(), 0) < RUNS / 10) {
                System.out.println("too few calls answered in earnest: " + method.getName());
                System.exit(1);
            }
        }
        if (args.length > 0) {
            System.out.println("fine " + FINE + "\nrefused " + REFUSED);
        }
        System.out.println(RUNS + " runs are as the model's");
    }

    private String run() throws Exception {
        Method[] methods = StrengthenFirst.class.getDeclaredMethods();
        List<Method> face = new ArrayList<>();
        for (Method method : methods) {
            if (java.lang.reflect.Modifier.isPublic(method.getModifiers())) {
                face.add(method);
            }
        }
        face.sort(Comparator.comparing(Method::getName));
        String wrong = begin(face);
        for (int i = 0; i < CALLS && wrong == null; i++) {
            if (random.nextInt(12) == 0) {
                wrong = write(face, random.nextInt(8));
            } else {
                Method method = face.get(random.nextInt(face.size()));
                wrong = compare(method, arguments(method.getName()));
            }
            for (int what = 0; what < 19 && wrong == null; what++) {
                wrong = compare(find(face, "status"), what);
            }
        }
        return wrong;
    }

    private static Method find(List<Method> face, String name) {
        return face.stream().filter(m -> m.getName().equals(name)).findFirst().orElseThrow();
    }

    /** A town to begin with, so that most calls have something to tell of. */
    private String begin(List<Method> face) throws Exception {
        String wrong = null;
        int houses = random.nextInt(random.nextInt(8) == 0 ? 11 : 7);
        int streets = random.nextInt(13);
        for (int i = 0; i < streets && wrong == null; i++) {
            wrong = compare(find(face, "street"), random.nextInt(8), random.nextInt(8));
        }
        for (int i = 0; i < houses && wrong == null; i++) {
            wrong = compare(find(face, "house"), random.nextInt(8), random.nextInt(10), number(99), number(99),
                1 + number(98));
            if (wrong == null && random.nextInt(3) > 0) {
                wrong = compare(find(face, "front"), i, random.nextInt(13));
            }
            if (wrong == null && random.nextInt(2) > 0) {
                wrong = compare(find(face, "next"), i, random.nextInt(7));
            }
        }
        int shakes = random.nextInt(5);
        for (int i = 0; i < shakes && wrong == null; i++) {
            wrong = compare(find(face, "shake"), random.nextInt(100), random.nextInt(10));
        }
        for (int s = 0; s < 8 && wrong == null; s++) {
            if (random.nextInt(2) == 0) {
                wrong = compare(find(face, "rule"), s, random.nextInt(6), number(99));
            }
        }
        return wrong;
    }

    /** Fills a SHELF: a text, HOUSES, a row of HOUSES, or anything. */
    private String write(List<Method> face, int s) throws Exception {
        int kind = random.nextInt(4);
        long[] elements;
        int sort = random.nextInt(4);
        if (kind == 0) {
            String text = text();
            elements = text.chars().mapToLong(c -> c).toArray();
        } else if (kind == 1) {
            elements = new long[5 * random.nextInt(4) + (random.nextInt(6) == 0 ? 1 : 0)];
            int[] most = {8, 10, 100, 100, 100};
            for (int i = 0; i < elements.length; i++) {
                elements[i] = random.nextInt(most[i % 5]) + (random.nextInt(30) == 0 ? 1L << 32 : 0L);
            }
        } else if (kind == 2) {
            elements = new long[random.nextInt(6)];
            List<Long> numbers = new ArrayList<>(List.of(0L, 1L, 2L, 3L, 4L, 5L));
            java.util.Collections.shuffle(numbers, random);
            for (int i = 0; i < elements.length; i++) {
                elements[i] = random.nextInt(12) == 0 ? random.nextInt(9) - 1 : numbers.get(i);
            }
        } else {
            elements = new long[random.nextInt(12)];
            for (int i = 0; i < elements.length; i++) {
                elements[i] = random.nextInt(2) == 0 ? random.nextLong() : random.nextInt(14) - 2;
            }
        }
        String wrong = compare(find(face, "row"), s, sort, elements.length);
        for (int i = 0; i < elements.length && wrong == null; i++) {
            wrong = compare(find(face, "set"), s, i, elements[i]);
        }
        if (wrong == null && kind == 0) {
            wrong = compare(find(face, "town"), s);
            wrong = wrong != null ? wrong : compare(find(face, "fault"));
        } else if (wrong == null && kind == 1 && random.nextInt(2) == 0) {
            wrong = compare(find(face, "houses"), s, 0, elements.length);
        } else if (wrong == null && kind == 2) {
            wrong = random.nextBoolean() ? compare(find(face, "judge"), s, 1 + random.nextInt(20))
                : compare(find(face, "rule"), random.nextInt(8), 6, s);
        }
        return wrong;
    }

    private String text() {
        StringBuilder text = new StringBuilder();
        int items = 1 + random.nextInt(5);
        for (int i = 0; i < items; i++) {
            text.append(i == 0 ? "" : ";").append(item());
        }
        if (random.nextInt(3) == 0 && text.length() > 0) {
            int at = random.nextInt(text.length());
            String odd = "0123456789 ;sthoufrnexckidapy\u00e9";
            char sign = odd.charAt(random.nextInt(odd.length()));
            switch (random.nextInt(4)) {
                case 0:
                    text.setCharAt(at, sign);
                    break;
                case 1:
                    text.insert(at, sign);
                    break;
                case 2:
                    text.deleteCharAt(at);
                    break;
                default:
                    text.setLength(at);
                    break;
            }
        }
        if (text.length() > 120) {
            text.setLength(120);
        }
        return text.toString();
    }

    private String item() {
        switch (random.nextInt(6)) {
            case 0:
                return "street " + upTo(7) + " " + upTo(7);
            case 1:
                return "house " + upTo(7) + " " + upTo(9) + " " + upTo(99) + " " + upTo(99) + " " + upTo(99)
                    + (random.nextInt(2) == 0 ? " front " + upTo(6) : "")
                    + (random.nextInt(2) == 0 ? " next " + upTo(4) : "");
            case 2:
                return "shake " + upTo(99) + " " + upTo(9);
            case 3:
                return "coin " + upTo(999);
            case 4:
                return "shut " + upTo(10);
            default:
                return "daypart " + upTo(10);
        }
    }

    private String upTo(int most) {
        int v = random.nextInt(25) == 0 ? random.nextInt(1000) : random.nextInt(most + 1);
        return (random.nextInt(8) == 0 && v < 100 ? "0" : "") + v;
    }

    private int number(int most) {
        int pick = random.nextInt(8);
        return pick == 0 ? 0 : pick == 1 ? most : random.nextInt(most + 1);
    }

    private int near(int count) {
        if (wild && random.nextInt(6) == 0) {
            int[] far = {Integer.MIN_VALUE, Integer.MAX_VALUE, Integer.MAX_VALUE - 1, -2, 255, 31, 32, 33, 64, 121, 120};
            return far[random.nextInt(far.length)];
        }
        return random.nextInt(10) == 0 ? random.nextInt(count + 3) - 1 : random.nextInt(Math.max(1, count));
    }

    private Object[] arguments(String name) {
        int houses = Math.max(1, subject.status(1));
        int s = near(8);
        int n = near(21);
        switch (name) {
            case "row":
                return new Object[] {s, near(4), random.nextInt(4) == 0 ? near(121) : near(12)};
            case "set":
                return new Object[] {s, near(8), random.nextInt(3) == 0 ? random.nextLong() : near(9)};
            case "copy":
                return new Object[] {s, near(8), near(6), near(6), near(6)};
            case "element":
            case "order":
                return new Object[] {s, near(10)};
            case "rule":
                return new Object[] {s, near(7), random.nextInt(2) == 0 ? near(8) : near(100)};
            case "says":
                return new Object[] {s, near(7)};
            case "street":
                return new Object[] {s, near(8)};
            case "house":
                return new Object[] {s, near(10), near(100), near(100), near(100)};
            case "houses":
                return new Object[] {s, near(3), random.nextInt(3) == 0 ? near(12) : 5};
            case "houseOf":
                return new Object[] {near(houses), near(9)};
            case "front":
                return new Object[] {near(houses), near(Math.max(1, subject.status(0)))};
            case "next":
                return new Object[] {near(houses), near(houses)};
            case "alter":
                return new Object[] {near(houses), random.nextInt(3) == 0 ? near(3) : 2, random.nextInt(4) == 0 ? near(100) : near(3)};
            case "prop":
                return new Object[] {near(houses), random.nextInt(3) > 0};
            case "shake":
                return new Object[] {near(100), near(10)};
            case "ask":
                return new Object[] {near(3), random.nextInt(3) == 0 ? near(1000) : near(11)};
            case "falls":
                return new Object[] {near(houses), near(Math.max(1, subject.status(2)))};
            case "cut":
                return new Object[] {near(1 << houses)};
            case "lost":
            case "dead":
                return new Object[] {near(Math.max(1, subject.status(2))), near(2)};
            case "shuts":
                return new Object[] {s, near(Math.max(1, subject.status(2)))};
            case "worth":
                return new Object[] {near(houses)};
            case "narrow":
                return new Object[] {near(Math.max(1, subject.status(2)))};
            case "plan":
            case "steps":
            case "judge":
            case "gap":
                return new Object[] {s, n};
            case "years":
                return new Object[] {s, random.nextInt(3) == 0 ? n : 1};
            case "first":
                return new Object[] {n, near(5)};
            case "best":
            case "bound":
            case "head":
                return new Object[] {n};
            case "seed":
                return new Object[] {random.nextInt()};
            case "act":
                return new Object[] {s, near(3), random.nextInt(2) == 0 ? random.nextInt() : near(100)};
            case "trace":
                return new Object[] {near(21)};
            case "holds":
            case "town":
                return new Object[] {s};
            case "status":
                return new Object[] {near(19)};
            default:
                return new Object[0];
        }
    }

    /** What is wrong; null: nothing. */
    private String compare(Method method, Object... arguments) throws Exception {
        Object[] given = new Object[arguments.length];
        for (int i = 0; i < given.length; i++) {
            boolean wide = method.getParameterTypes()[i] == long.class;
            given[i] = wide ? (Object) ((Number) arguments[i]).longValue() : arguments[i];
        }
        StringBuilder call = new StringBuilder(method.getName()).append('(');
        for (int i = 0; i < given.length; i++) {
            call.append(i == 0 ? "" : ", ").append(given[i]);
        }
        call.append(')');
        calls.add(call.toString());
        Method due = Model.class.getDeclaredMethod(method.getName(), method.getParameterTypes());
        int before = refusals();
        Object got;
        try {
            got = method.invoke(subject, given);
        } catch (InvocationTargetException thrown) {
            return history() + " threw " + thrown.getCause();
        }
        Object want = due.invoke(model, given);
        if (!method.getName().equals("status")) {
            (refusals() == before ? FINE : REFUSED).merge(method.getName(), 1, Integer::sum);
        } else {
            FINE.merge("status", 1, Integer::sum);
        }
        if (((Number) got).longValue() != ((Number) want).longValue()) {
            return history() + " answered " + got + ", due is " + want;
        }
        return null;
    }

    private int refusals() {
        int all = 0;
        for (int what = 11; what <= 17; what++) {
            all += subject.status(what);
        }
        return all;
    }

    private String history() {
        StringBuilder all = new StringBuilder();
        for (String call : calls) {
            if (!call.startsWith("status") || call == calls.get(calls.size() - 1)) {
                all.append("\n  ").append(call);
            }
        }
        return all.toString();
    }
}
