import java.util.ArrayList;
import java.util.Arrays;
import java.util.Comparator;
import java.util.HashMap;
import java.util.List;
import java.util.Map;
import java.util.TreeSet;
import java.util.regex.Matcher;
import java.util.regex.Pattern;

/** The document written a second time, as slowly and as near to its words as may be, for the tests to compare with. */
final class Model {
    static final int NONE = -1;

    // ---- what it keeps ----

    static final class Row {
        int sort;
        long[] elements;
    }

    static final class House {
        int corner, weak, day, night, cost, front = NONE, next = NONE, steps;
        boolean propped;

        House like() {
            House h = new House();
            h.corner = corner;
            h.weak = weak;
            h.day = day;
            h.night = night;
            h.cost = cost;
            h.front = front;
            h.next = next;
            h.steps = steps;
            h.propped = propped;
            return h;
        }
    }

    static final class State {
        List<int[]> streets = new ArrayList<>();
        List<House> houses = new ArrayList<>();
        List<int[]> shakes = new ArrayList<>();
        int coin = 50, shut = 5, daypart = 4, purse, year, gone, seed = 1;

        State like() {
            State t = new State();
            t.streets.addAll(streets);
            for (House h : houses) {
                t.houses.add(h.like());
            }
            t.shakes.addAll(shakes);
            t.coin = coin;
            t.shut = shut;
            t.daypart = daypart;
            t.purse = purse;
            t.year = year;
            t.gone = gone;
            t.seed = seed;
            return t;
        }
    }

    private final Object[] shelves = new Object[8];
    private State t = new State();
    private State imaged;
    private int fault = NONE;
    private final int[] refusals = new int[8];
    private final List<Integer> trace = new ArrayList<>();

    // ---- the kinds, with bodies as Java's own inheritance runs them ----

    class KindRule {
        int kind, m, a;
        int[] told = new int[0];

        int orders(int x) {
            trace.add(10);
            return x + m;
        }

        int costs(int x) {
            trace.add(11);
            return orders(x) * 2;
        }

        int saves(int x) {
            trace.add(12);
            return costs(x) ^ orders(x - a);
        }

        List<Integer> order() {
            return new ArrayList<>(open());
        }

        final List<Integer> open() {
            List<Integer> some = new ArrayList<>();
            for (int h = 0; h < t.houses.size(); h++) {
                if (t.houses.get(h).steps < 2) {
                    some.add(h);
                }
            }
            return some;
        }

        int says(int by) {
            List<Integer> all = order();
            switch (by) {
                case 1:
                case 3:
                    return all.isEmpty() ? NONE : all.get(0);
                case 2:
                case 5:
                    return all.isEmpty() ? NONE : all.get(all.size() - 1);
                case 4:
                    return (int) t.houses.stream().filter(h -> h.cost <= a).count();
                case 6:
                    return told.length;
                default:
                    return a;
            }
        }
    }

    class KindFull extends KindRule {
        @Override
        int orders(int x) {
            trace.add(20);
            return super.orders(x) + a;
        }

        @Override
        List<Integer> order() {
            List<Integer> all = open();
            all.sort(Comparator.comparing((Integer h) -> -people(t.houses.get(h))));
            return all;
        }

        int people(House h) {
            return t.daypart * h.day + (10 - t.daypart) * h.night;
        }
    }

    class KindStreet extends KindFull {
        @Override
        int orders(int x) {
            trace.add(30);
            return super.orders(x + 1);
        }

        @Override
        int saves(int x) {
            trace.add(31);
            return super.saves(x) - m;
        }

        @Override
        List<Integer> order() {
            List<Integer> all = super.order();
            List<Integer> with = new ArrayList<>(all);
            with.removeIf(h -> t.houses.get(h).front == NONE);
            all.removeAll(with);
            with.addAll(all);
            return with;
        }
    }

    class KindWeak extends KindRule {
        @Override
        int costs(int x) {
            trace.add(40);
            return super.costs(x) * 3;
        }

        @Override
        List<Integer> order() {
            List<Integer> all = open();
            all.sort(Comparator.comparing((Integer h) -> 4 * t.houses.get(h).steps - t.houses.get(h).weak));
            return all;
        }
    }

    class KindProp extends KindWeak {
        @Override
        int costs(int x) {
            trace.add(50);
            return -super.costs(x);
        }

        @Override
        List<Integer> order() {
            List<Integer> all = super.order();
            List<Integer> free = new ArrayList<>(all);
            free.removeIf(h -> t.houses.get(h).propped);
            all.removeAll(free);
            free.addAll(all);
            return free;
        }
    }

    class KindSaves extends KindRule {
        @Override
        int saves(int x) {
            trace.add(60);
            return super.saves(x) ^ 5;
        }

        @Override
        List<Integer> order() {
            List<Integer> left = open();
            List<Integer> dear = new ArrayList<>(left);
            dear.removeIf(h -> t.houses.get(h).cost <= a);
            left.removeAll(dear);
            List<Integer> all = new ArrayList<>();
            State tried = t.like();
            while (!left.isEmpty()) {
                Integer least = null;
                long leastMean = 0;
                for (Integer h : left) {
                    tried.houses.get(h).steps++;
                    long mean = meanOf(tried);
                    tried.houses.get(h).steps--;
                    if (least == null || mean < leastMean) {
                        least = h;
                        leastMean = mean;
                    }
                }
                tried.houses.get(least).steps++;
                left.remove(least);
                all.add(least);
            }
            all.addAll(dear);
            return all;
        }
    }

    class KindTold extends KindRule {
        @Override
        int saves(int x) {
            trace.add(70);
            return super.saves(x) * 2;
        }

        @Override
        int costs(int x) {
            trace.add(71);
            return super.costs(x - a);
        }

        @Override
        List<Integer> order() {
            List<Integer> left = open();
            List<Integer> all = new ArrayList<>();
            for (Integer h : told) {
                if (left.remove(h)) {
                    all.add(h);
                }
            }
            all.addAll(left);
            return all;
        }
    }

    // ---- refusals ----

    private int no(int number) {
        refusals[number]++;
        return -number;
    }

    private static boolean in(int v, int low, int high) {
        return v >= low && v <= high;
    }

    private int lacks(int s, Class<?> wanted) {
        if (!in(s, 0, 7)) {
            return 1;
        }
        if (shelves[s] == null) {
            return 3;
        }
        return wanted.isInstance(shelves[s]) ? 0 : 2;
    }

    private int lacksPlan(int s, int n) {
        int no = lacks(s, KindRule.class);
        return no != 0 ? no : in(n, 1, 20) ? 0 : 6;
    }

    // ---- shelves ----

    int row(int s, int sort, int n) {
        if (!in(s, 0, 7)) {
            return no(1);
        }
        if (n < 0) {
            return no(4);
        }
        if (!in(sort, 0, 3)) {
            return no(6);
        }
        if (n > 120) {
            return no(7);
        }
        Row made = new Row();
        made.sort = sort;
        made.elements = new long[n];
        shelves[s] = made;
        return 1;
    }

    int set(int s, int i, long v) {
        int no = lacks(s, Row.class);
        if (no != 0) {
            return no(no);
        }
        Row r = (Row) shelves[s];
        if (!in(i, 0, r.elements.length - 1)) {
            return no(5);
        }
        int off = 64 - (8 << r.sort);
        r.elements[i] = v << off >> off;
        return 1;
    }

    int copy(int p, int q, int i, int j, int n) {
        int a = lacks(p, Row.class);
        int b = lacks(q, Row.class);
        if (a == 1 || b == 1) {
            return no(1);
        }
        if (a == 2 || b == 2 || a == 0 && b == 0 && ((Row) shelves[p]).sort != ((Row) shelves[q]).sort) {
            return no(2);
        }
        if (a == 3 || b == 3) {
            return no(3);
        }
        if (n < 0) {
            return no(4);
        }
        long[] from = ((Row) shelves[p]).elements.clone();
        long[] to = ((Row) shelves[q]).elements;
        if (i < 0 || j < 0 || (long) i + n > from.length || (long) j + n > to.length) {
            return no(5);
        }
        for (int x = 0; x < n; x++) {
            to[j + x] = from[i + x];
        }
        return 1;
    }

    long element(int s, int i) {
        if (lacks(s, Row.class) != 0) {
            return 0;
        }
        long[] all = ((Row) shelves[s]).elements;
        return in(i, 0, all.length - 1) ? all[i] : 0;
    }

    int rule(int s, int kind, int a) {
        if (!in(s, 0, 7) || !in(kind, -1, 6)) {
            return no(1);
        }
        if (kind == NONE) {
            shelves[s] = null;
            return 0;
        }
        int no = kind == 6 ? lacks(a, Row.class) : in(a, 0, 99) ? 0 : 6;
        if (no != 0) {
            return no(no);
        }
        KindRule[] kinds = {new KindRule(), new KindFull(), new KindWeak(), new KindStreet(), new KindSaves(),
            new KindProp(), new KindTold()};
        KindRule made = kinds[kind];
        made.kind = kind;
        made.m = s;
        made.a = a;
        if (kind == 6) {
            made.told = Arrays.stream(((Row) shelves[a]).elements).mapToInt(e -> (int) e).toArray();
        }
        shelves[s] = made;
        return 1;
    }

    int holds(int s) {
        if (!in(s, 0, 7) || shelves[s] == null) {
            return NONE;
        }
        return shelves[s] instanceof Row ? 100 + ((Row) shelves[s]).sort : ((KindRule) shelves[s]).kind;
    }

    int says(int s, int kind) {
        int no = lacks(s, KindRule.class);
        if (no == 1 || !in(kind, 0, 6)) {
            return no(1);
        }
        if (no != 0) {
            return no(no);
        }
        Class<?>[] kinds = {KindRule.class, KindFull.class, KindWeak.class, KindStreet.class, KindSaves.class,
            KindProp.class, KindTold.class};
        if (!kinds[kind].isInstance(shelves[s])) {
            return no(2);
        }
        return ((KindRule) shelves[s]).says(kind);
    }

    // ---- the town ----

    int street(int a, int b) {
        if (!in(a, 0, 7) || !in(b, 0, 7)) {
            return no(1);
        }
        if (a == b) {
            return no(6);
        }
        if (t.streets.size() == 12) {
            return no(7);
        }
        t.streets.add(new int[] {a, b});
        return t.streets.size() - 1;
    }

    int house(int corner, int weak, int day, int night, int cost) {
        int no = lacksHouse(corner, weak, day, night, cost);
        if (no != 0) {
            return no(no);
        }
        t.houses.add(newHouse(corner, weak, day, night, cost));
        return t.houses.size() - 1;
    }

    private int lacksHouse(int corner, int weak, int day, int night, int cost) {
        if (!in(corner, 0, 7)) {
            return 1;
        }
        if (!in(weak, 0, 9) || !in(day, 0, 99) || !in(night, 0, 99) || !in(cost, 1, 99)) {
            return 6;
        }
        return t.houses.size() == 10 ? 7 : 0;
    }

    private static House newHouse(int corner, int weak, int day, int night, int cost) {
        House h = new House();
        h.corner = corner;
        h.weak = weak;
        h.day = day;
        h.night = night;
        h.cost = cost;
        return h;
    }

    int houses(int s, int i, int n) {
        int no = lacks(s, Row.class);
        if (no != 0) {
            return no(no);
        }
        if (n < 0) {
            return no(4);
        }
        long[] all = ((Row) shelves[s]).elements;
        if (i < 0 || (long) i + n > all.length) {
            return no(5);
        }
        if (n % 5 != 0) {
            return no(6);
        }
        int came = 0;
        for (int at = i; at < i + n; at += 5) {
            int[] e = new int[5];
            for (int x = 0; x < 5; x++) {
                e[x] = (int) all[at + x];
            }
            if (lacksHouse(e[0], e[1], e[2], e[3], e[4]) != 0) {
                return came;
            }
            t.houses.add(newHouse(e[0], e[1], e[2], e[3], e[4]));
            came++;
        }
        return came;
    }

    private boolean isHouse(int h) {
        return in(h, 0, t.houses.size() - 1);
    }

    private boolean isShake(int s) {
        return in(s, 0, t.shakes.size() - 1);
    }

    int houseOf(int house, int what) {
        if (!isHouse(house) || !in(what, 0, 8)) {
            return no(5);
        }
        House h = t.houses.get(house);
        return new int[] {h.corner, h.weak, h.day, h.night, h.cost, h.front, h.next, h.steps, h.propped ? 1 : 0}[what];
    }

    int front(int house, int street) {
        if (!isHouse(house) || !in(street, -1, t.streets.size() - 1)) {
            return no(1) - 10;
        }
        int was = t.houses.get(house).front;
        t.houses.get(house).front = street;
        return was;
    }

    int next(int house, int other) {
        if (!isHouse(house) || other != NONE && !isHouse(other)) {
            return no(1) - 10;
        }
        if (house == other) {
            return no(6) - 10;
        }
        int was = t.houses.get(house).next;
        t.houses.get(house).next = other;
        return was;
    }

    int alter(int house, int what, int v) {
        if (!isHouse(house)) {
            return no(1);
        }
        House h = t.houses.get(house);
        int was;
        if (what == 0 && in(v, 0, 99)) {
            was = h.day;
            h.day = v;
        } else if (what == 1 && in(v, 0, 99)) {
            was = h.night;
            h.night = v;
        } else if (what == 2 && in(v, 0, 2)) {
            was = h.steps;
            h.steps = v;
        } else {
            return no(6);
        }
        return was;
    }

    int prop(int house, boolean is) {
        if (!isHouse(house)) {
            return no(1);
        }
        House h = t.houses.get(house);
        int answer = h.propped == is ? 0 : 1;
        h.propped = is;
        return answer;
    }

    int shake(int chance, int hard) {
        if (!in(chance, 0, 99) || !in(hard, 0, 9)) {
            return no(6);
        }
        if (t.shakes.size() == 4) {
            return no(7);
        }
        t.shakes.add(new int[] {chance, hard});
        return t.shakes.size() - 1;
    }

    int ask(int what, int v) {
        int was;
        if (what == 0 && in(v, 1, 999)) {
            was = t.coin;
            t.coin = v;
        } else if (what == 1 && in(v, 0, 10)) {
            was = t.shut;
            t.shut = v;
        } else if (what == 2 && in(v, 0, 10)) {
            was = t.daypart;
            t.daypart = v;
        } else {
            return no(6);
        }
        return was;
    }

    // ---- the text: a pattern tells what may go on, then the numbers are looked at one by one ----

    private static final String N = " [0-9]{1,3}";
    private static final String ITEM = "(street" + N + N + "|house" + N + N + N + N + N + "( front" + N + ")?( next" + N
        + ")?|shake" + N + N + "|coin" + N + "|shut" + N + "|daypart" + N + ")";
    private static final Pattern TEXT = Pattern.compile(ITEM + "(;" + ITEM + ")*");

    int town(int s) {
        int no = lacks(s, Row.class);
        if (no != 0) {
            return no(no);
        }
        StringBuilder letters = new StringBuilder();
        for (long e : ((Row) shelves[s]).elements) {
            letters.append((int) e > 0 && (int) e < 256 ? (char) (int) e : (char) 1);
        }
        String text = letters.toString();
        int place = wrongGoingOn(text);
        boolean stands = place == NONE;
        State draft = t.like();
        int worth = wrongMeaning(stands ? text : text.substring(0, place), draft);
        fault = worth != NONE ? worth : place;
        if (fault != NONE) {
            return no(6);
        }
        t = draft;
        return text.split(";").length;
    }

    private static int wrongGoingOn(String text) {
        for (int length = 1; length <= text.length(); length++) {
            Matcher m = TEXT.matcher(text.substring(0, length));
            if (!m.matches() && !m.hitEnd()) {
                return length - 1;
            }
        }
        return TEXT.matcher(text).matches() ? NONE : text.length();
    }

    private static int wrongMeaning(String text, State d) {
        int itemAt = 0;
        for (String item : text.split(";", -1)) {
            int wrong = wrongItem(item, d);
            if (wrong != NONE) {
                return itemAt + wrong;
            }
            itemAt += item.length() + 1;
        }
        return NONE;
    }

    private static int wrongItem(String item, State d) {
        String[] words = item.split(" ", -1);
        Map<String, int[]> bounds = new HashMap<>();
        bounds.put("street", new int[] {0, 7, 0, 7});
        bounds.put("house", new int[] {0, 7, 0, 9, 0, 99, 0, 99, 1, 99});
        bounds.put("shake", new int[] {0, 99, 0, 9});
        bounds.put("coin", new int[] {1, 999});
        bounds.put("shut", new int[] {0, 10});
        bounds.put("daypart", new int[] {0, 10});
        bounds.put("front", new int[] {0, d.streets.size() - 1});
        bounds.put("next", new int[] {0, d.houses.size() - 1});
        if (words[0].equals("street") && d.streets.size() == 12 || words[0].equals("house") && d.houses.size() == 10
            || words[0].equals("shake") && d.shakes.size() == 4) {
            return 0;
        }
        Map<String, List<Integer>> found = new HashMap<>();
        String word = "";
        int at = 0;
        for (String part : words) {
            if (bounds.containsKey(part)) {
                word = part;
                found.put(word, new ArrayList<>());
            } else if (part.matches("[0-9]+")) {
                List<Integer> numbers = found.get(word);
                int v = Integer.parseInt(part);
                int[] lowHigh = bounds.get(word);
                if (v < lowHigh[2 * numbers.size()] || v > lowHigh[2 * numbers.size() + 1]
                    || word.equals("street") && numbers.contains(v)) {
                    return at;
                }
                numbers.add(v);
            }
            at += part.length() + 1;
        }
        add(found, d);
        return NONE;
    }

    /** Adds an item that is whole; one cut short by a fault may come too: the draft is thrown away then. */
    private static void add(Map<String, List<Integer>> found, State d) {
        for (Map.Entry<String, List<Integer>> e : found.entrySet()) {
            List<Integer> v = e.getValue();
            if (e.getKey().equals("street") && v.size() == 2) {
                d.streets.add(new int[] {v.get(0), v.get(1)});
            } else if (e.getKey().equals("shake") && v.size() == 2) {
                d.shakes.add(new int[] {v.get(0), v.get(1)});
            } else if (e.getKey().equals("coin") && v.size() == 1) {
                d.coin = v.get(0);
            } else if (e.getKey().equals("shut") && v.size() == 1) {
                d.shut = v.get(0);
            } else if (e.getKey().equals("daypart") && v.size() == 1) {
                d.daypart = v.get(0);
            } else if (e.getKey().equals("house") && v.size() == 5) {
                House h = newHouse(v.get(0), v.get(1), v.get(2), v.get(3), v.get(4));
                h.front = found.getOrDefault("front", List.of()).isEmpty() ? NONE : found.get("front").get(0);
                h.next = found.getOrDefault("next", List.of()).isEmpty() ? NONE : found.get("next").get(0);
                d.houses.add(h);
            }
        }
    }

    int fault() {
        return fault;
    }

    // ---- a shake ----

    private static int fallsOf(State x, int house, int shake) {
        House h = x.houses.get(house);
        int sum = h.weak + x.shakes.get(shake)[1] - 4 * h.steps;
        if (h.propped) {
            sum -= 2;
        }
        if (h.next != NONE && x.houses.get(h.next).steps > h.steps) {
            sum += 1;
        }
        return Math.max(0, Math.min(10, sum));
    }

    private static boolean isCut(State x, int corner, int set) {
        TreeSet<Integer> seen = new TreeSet<>(List.of(corner));
        List<Integer> ahead = new ArrayList<>(List.of(corner));
        while (!ahead.isEmpty()) {
            int here = ahead.remove(0);
            for (int s = 0; s < x.streets.size(); s++) {
                boolean fallen = false;
                for (int h = 0; h < x.houses.size(); h++) {
                    fallen |= (set >> h & 1) == 1 && x.houses.get(h).front == s;
                }
                int[] ends = x.streets.get(s);
                int there = ends[0] == here ? ends[1] : ends[1] == here ? ends[0] : NONE;
                if (!fallen && there != NONE && seen.add(there)) {
                    ahead.add(there);
                }
            }
        }
        return !seen.contains(0);
    }

    private interface Told {
        long of(int set);
    }

    private static long over(State x, int shake, Told told) {
        long all = 0;
        int count = x.houses.size();
        for (int set = 0; set < 1 << count; set++) {
            long odds = 1;
            for (int h = 0; h < count; h++) {
                int falls = fallsOf(x, h, shake);
                odds *= (set >> h & 1) == 1 ? falls : 10 - falls;
            }
            if (odds > 0) {
                all += odds * told.of(set);
            }
        }
        return all;
    }

    private static long deadIn(State x, int set, int hour) {
        long sum = 0;
        for (int h = 0; h < x.houses.size(); h++) {
            House one = x.houses.get(h);
            sum += (set >> h & 1) == 1 ? hour == 0 ? one.day : one.night : 0;
        }
        return sum;
    }

    private static long caughtIn(State x, int set, int hour) {
        long sum = 0;
        for (int h = 0; h < x.houses.size(); h++) {
            House one = x.houses.get(h);
            if ((set >> h & 1) == 0 && isCut(x, one.corner, set)) {
                sum += hour == 0 ? one.day : one.night;
            }
        }
        return sum;
    }

    private static long lostOf(State x, int shake, int hour) {
        return over(x, shake, set -> 10 * deadIn(x, set, hour) + x.shut * caughtIn(x, set, hour));
    }

    private final Map<String, Long> meansKnown = new HashMap<>();

    /** Remembers MEANS by all that they hang on, or the slow way would be too slow. */
    private long meanOf(State x) {
        StringBuilder key = new StringBuilder();
        key.append(x.shut).append(' ').append(x.daypart);
        for (int[] street : x.streets) {
            key.append(';').append(street[0]).append(',').append(street[1]);
        }
        for (int[] shake : x.shakes) {
            key.append('!').append(shake[0]).append(',').append(shake[1]);
        }
        for (House h : x.houses) {
            key.append('/').append(h.corner).append(',').append(h.weak).append(',').append(h.day).append(',')
                .append(h.night).append(',').append(h.front).append(',').append(h.next).append(',').append(h.steps)
                .append(h.propped);
        }
        return meansKnown.computeIfAbsent(key.toString(), k -> slowMeanOf(x));
    }

    private static long slowMeanOf(State x) {
        long all = 0;
        for (int s = 0; s < x.shakes.size(); s++) {
            all += x.shakes.get(s)[0] * (x.daypart * lostOf(x, s, 0) + (10 - x.daypart) * lostOf(x, s, 1));
        }
        return all;
    }

    int falls(int house, int shake) {
        return isHouse(house) && isShake(shake) ? fallsOf(t, house, shake) : no(1);
    }

    int cut(int set) {
        if (set < 0 || set >> t.houses.size() != 0) {
            return no(1);
        }
        int bits = 0;
        for (int c = 0; c < 8; c++) {
            bits |= isCut(t, c, set) ? 1 << c : 0;
        }
        return bits;
    }

    long lost(int shake, int hour) {
        return !isShake(shake) ? no(1) : !in(hour, 0, 1) ? no(6) : lostOf(t, shake, hour);
    }

    long dead(int shake, int hour) {
        return !isShake(shake) ? no(1) : !in(hour, 0, 1) ? no(6) : over(t, shake, set -> 10 * deadIn(t, set, hour));
    }

    long shuts(int corner, int shake) {
        if (!isShake(shake) || !in(corner, 0, 7)) {
            return no(1);
        }
        return over(t, shake, set -> isCut(t, corner, set) ? 1 : 0);
    }

    long mean() {
        return meanOf(t);
    }

    private long worthIn(int house) {
        State more = t.like();
        more.houses.get(house).steps++;
        return meanOf(t) - meanOf(more);
    }

    long worth(int house) {
        if (!isHouse(house)) {
            return no(1) - 1000000;
        }
        return t.houses.get(house).steps == 2 ? no(6) - 1000000 : worthIn(house);
    }

    int which() {
        int best = NONE;
        for (int h : new KindRule().open()) {
            long by = worthIn(h) / t.houses.get(h).cost;
            if (best == NONE || by > worthIn(best) / t.houses.get(best).cost) {
                best = h;
            }
        }
        return best;
    }

    // ---- plans ----

    int order(int s, int i) {
        int no = lacks(s, KindRule.class);
        if (no != 0) {
            return no(no);
        }
        List<Integer> all = ((KindRule) shelves[s]).order();
        return in(i, 0, all.size() - 1) ? all.get(i) : no(5);
    }

    /** LOSS, and how many STEPS. */
    private long[] planBy(List<Integer> row, int n) {
        State x = t.like();
        List<Integer> left = new ArrayList<>(row);
        long loss = 0;
        int made = 0;
        for (int year = 0; year < n; year++) {
            made += buy(x, left);
            loss += meanOf(x);
        }
        return new long[] {loss, made};
    }

    private static int buy(State x, List<Integer> left) {
        int made = 0;
        x.purse += x.coin;
        while (!left.isEmpty()) {
            House h = x.houses.get(left.get(0));
            if (h.steps == 2) {
                left.remove(0);
                continue;
            }
            if (x.purse < h.cost) {
                break;
            }
            x.purse -= h.cost;
            h.steps++;
            made++;
            left.remove(0);
        }
        return made;
    }

    long plan(int s, int n) {
        int no = lacksPlan(s, n);
        return no != 0 ? no(no) : planBy(((KindRule) shelves[s]).order(), n)[0];
    }

    int steps(int s, int n) {
        int no = lacksPlan(s, n);
        return no != 0 ? no(no) : (int) planBy(((KindRule) shelves[s]).order(), n)[1];
    }

    long judge(int s, int n) {
        int no = lacks(s, Row.class);
        if (no != 0) {
            return no(no);
        }
        List<Integer> row = new ArrayList<>();
        boolean may = in(n, 1, 20);
        for (long e : ((Row) shelves[s]).elements) {
            may = may && isHouse((int) e) && !row.contains((int) e);
            row.add((int) e);
        }
        return may ? planBy(row, n)[0] : no(6);
    }

    private List<Integer> unstrengthened() {
        List<Integer> all = new ArrayList<>();
        for (int h = 0; h < t.houses.size(); h++) {
            if (t.houses.get(h).steps == 0) {
                all.add(h);
            }
        }
        return all;
    }

    private List<Integer> bestRow(int n) {
        List<List<Integer>> rows = new ArrayList<>();
        allRows(new ArrayList<>(), unstrengthened(), rows);
        List<Integer> best = rows.get(0);
        for (List<Integer> row : rows) {
            if (planBy(row, n)[0] < planBy(best, n)[0]) {
                best = row;
            }
        }
        return best;
    }

    private static void allRows(List<Integer> begun, List<Integer> left, List<List<Integer>> rows) {
        if (left.isEmpty()) {
            rows.add(new ArrayList<>(begun));
        }
        for (Integer h : left) {
            List<Integer> others = new ArrayList<>(left);
            others.remove(h);
            begun.add(h);
            allRows(begun, others, rows);
            begun.remove(begun.size() - 1);
        }
    }

    long best(int n) {
        return in(n, 1, 20) && unstrengthened().size() <= 5 ? planBy(bestRow(n), n)[0] : no(6);
    }

    int first(int n, int i) {
        if (!in(i, 0, unstrengthened().size() - 1)) {
            return no(5);
        }
        return in(n, 1, 20) && unstrengthened().size() <= 5 ? bestRow(n).get(i) : no(6);
    }

    long gap(int s, int n) {
        int no = lacksPlan(s, n);
        if (no == 0 && unstrengthened().size() > 5) {
            no = 6;
        }
        if (no != 0) {
            return no(no) - 1000000;
        }
        return planBy(((KindRule) shelves[s]).order(), n)[0] - planBy(bestRow(n), n)[0];
    }

    long bound(int n) {
        if (!in(n, 1, 20)) {
            return no(6);
        }
        State x = t.like();
        for (House h : x.houses) {
            h.steps = Math.max(1, h.steps);
        }
        return n * meanOf(x);
    }

    int head(int n) {
        List<Integer> rules = new ArrayList<>();
        for (int s = 0; s < 8; s++) {
            if (shelves[s] instanceof KindRule) {
                rules.add(s);
            }
        }
        if (rules.isEmpty()) {
            return no(5);
        }
        if (!in(n, 1, 20)) {
            return no(6);
        }
        rules.sort(Comparator.comparing(s -> planBy(((KindRule) shelves[s]).order(), n)[0]));
        return rules.get(0);
    }

    int narrow(int shake) {
        if (!isShake(shake)) {
            return no(1) - 10;
        }
        int most = NONE;
        long mostOdds = -1;
        for (int s = 0; s < t.streets.size(); s++) {
            int street = s;
            long odds = over(t, shake, set -> {
                for (int h = 0; h < t.houses.size(); h++) {
                    if ((set >> h & 1) == 1 && t.houses.get(h).front == street) {
                        return 1;
                    }
                }
                return 0;
            });
            if (odds > mostOdds) {
                most = s;
                mostOdds = odds;
            }
        }
        return most;
    }

    // ---- truth ----

    private int draw(int n) {
        t.seed = t.seed * 1103515245 + 12345;
        return (char) (t.seed >> 16) % n;
    }

    int years(int s, int n) {
        int no = lacksPlan(s, n);
        if (no != 0) {
            return no(no);
        }
        int gone = 0;
        for (int year = 0; year < n; year++) {
            buy(t, ((KindRule) shelves[s]).order());
            for (int shake = 0; shake < t.shakes.size(); shake++) {
                if (draw(1000) >= t.shakes.get(shake)[0]) {
                    continue;
                }
                int hour = draw(10) < t.daypart ? 0 : 1;
                int set = 0;
                for (int h = 0; h < t.houses.size(); h++) {
                    set |= draw(10) < fallsOf(t, h, shake) ? 1 << h : 0;
                }
                gone += deadIn(t, set, hour) + caughtIn(t, set, hour) * t.shut / 10;
            }
            for (House h : t.houses) {
                h.day = Math.min(99, h.day + h.steps);
                h.night = Math.min(99, h.night + h.steps);
                h.propped = false;
            }
            t.year++;
        }
        t.gone += gone;
        return gone;
    }

    int seed(int v) {
        int was = t.seed;
        t.seed = v;
        return was;
    }

    int act(int s, int act, int x) {
        trace.clear();
        if (lacks(s, KindRule.class) != 0 || !in(act, 0, 2)) {
            return 0;
        }
        KindRule r = (KindRule) shelves[s];
        return act == 0 ? r.orders(x) : act == 1 ? r.costs(x) : r.saves(x);
    }

    int trace(int i) {
        return in(i, 0, Math.min(20, trace.size()) - 1) ? trace.get(i) : NONE;
    }

    int image() {
        imaged = t.like();
        return t.year;
    }

    int restore() {
        if (imaged == null) {
            return no(6);
        }
        t = imaged.like();
        return t.year;
    }

    int status(int what) {
        if (in(what, 11, 17)) {
            return refusals[what - 10];
        }
        if (!in(what, 0, 8)) {
            return NONE;
        }
        int steps = t.houses.stream().mapToInt(h -> h.steps).sum();
        return new int[] {t.streets.size(), t.houses.size(), t.shakes.size(), steps, t.purse, t.year, t.gone, t.seed,
            trace.size()}[what];
    }
}
