import java.util.ArrayList;
import java.util.List;

/**
 * Each sentence of ../shared/DOC.md that names a boundary - too small, too large, empty, full, a wrap-around, a
 * refused call - has a test of its own here, in the order of the document.
 */
public final class BoundariesTest {
    private static final int NONE = StrengthenFirst.NONE;
    private static final int LOW = Integer.MIN_VALUE;
    private static final int HIGH = Integer.MAX_VALUE;
    private static int wrong = 0;
    private static String sentence = "";

    private interface Call {
        long on(StrengthenFirst x);
    }

    public static void main(String[] args) {
        theTown();
        texts();
        textNumbers();
        textRooms();
        aShake();
        aPlan();
        rulesAndOrders();
        bests();
        yearsInTruth();
        draws();
        shelves();
        actsWrap();
        refusalsOfShelves();
        refusalsOfRules();
        refusalsOfTheTown();
        refusalsOfTexts();
        refusalsOfShakes();
        refusalsOfPlans();
        refusalsOfBest();
        refusalsOfYearsAndImages();
        nothingIsRefused();
        emptyTown();
        fullTown();
        statuses();
        manyCalls();
        if (wrong != 0) {
            System.out.println(wrong + " boundaries are not kept");
            System.exit(1);
        }
        System.out.println("all boundaries are kept");
    }

    // ---- helpers ----

    private static void sentence(String words) {
        sentence = words;
    }

    private static void due(String what, long got, long want) {
        if (got != want) {
            wrong++;
            System.out.println("'" + sentence + "': " + what + " answered " + got + ", due is " + want);
        }
    }

    private static int[] counts(StrengthenFirst x) {
        int[] all = new int[8];
        for (int number = 1; number <= 7; number++) {
            all[number] = x.status(10 + number);
        }
        return all;
    }

    /** A call that answers in earnest: no REFUSAL is counted. */
    private static void fine(StrengthenFirst x, String what, Call call, long want) {
        int[] before = counts(x);
        due(what, call.on(x), want);
        for (int number = 1; number <= 7; number++) {
            due(what + ", counted as -" + number, x.status(10 + number), before[number]);
        }
    }

    /** A REFUSAL: its number, one more of it, none more of another, and all else is as it was. */
    private static void refused(StrengthenFirst x, String what, Call call, long want) {
        List<Long> state = stateOf(x);
        int[] before = counts(x);
        due(what, call.on(x), want);
        int fits = (int) (-want % 10);
        for (int number = 1; number <= 7; number++) {
            due(what + ", counted as -" + number, x.status(10 + number), before[number] + (number == fits ? 1 : 0));
        }
        List<Long> after = stateOf(x);
        for (int i = 0; i < state.size(); i++) {
            due(what + ", place " + i + " of the state", after.get(i), state.get(i));
        }
    }

    /** All that can be read without a REFUSAL, but for THE IMAGE. */
    private static List<Long> stateOf(StrengthenFirst x) {
        List<Long> all = new ArrayList<>();
        for (int s = 0; s < 8; s++) {
            long held = x.holds(s);
            all.add(held);
            for (int i = 0; i < 120; i++) {
                all.add(x.element(s, i));
            }
            if (held >= 0 && held < 7) {
                all.add((long) x.says(s, 0));
                all.add((long) x.says(s, (int) held));
                all.add((long) x.steps(s, 20));
            }
        }
        for (int what = 0; what <= 8; what++) {
            all.add((long) x.status(what));
        }
        for (int house = 0; house < x.status(1); house++) {
            for (int what = 0; what <= 8; what++) {
                all.add((long) x.houseOf(house, what));
            }
            for (int shake = 0; shake < x.status(2); shake++) {
                all.add((long) x.falls(house, shake));
            }
            all.add((long) x.cut(1 << house));
        }
        for (int what = 0; what <= 2; what++) {
            int was = x.ask(what, 1);
            x.ask(what, was);
            all.add((long) was);
        }
        for (int i = 0; i < 20; i++) {
            all.add((long) x.trace(i));
        }
        all.add((long) x.fault());
        all.add(x.mean());
        return all;
    }

    private static void write(StrengthenFirst x, int s, int sort, long... elements) {
        x.row(s, sort, elements.length);
        for (int i = 0; i < elements.length; i++) {
            x.set(s, i, elements[i]);
        }
    }

    private static int read(StrengthenFirst x, String text) {
        x.row(7, 0, text.length());
        for (int i = 0; i < text.length(); i++) {
            x.set(7, i, text.charAt(i));
        }
        return x.town(7);
    }

    /** That text has that FAULT, and nothing of it is added. */
    private static void faulty(StrengthenFirst x, String text, int place) {
        x.row(7, 0, text.length());
        for (int i = 0; i < text.length(); i++) {
            x.set(7, i, text.charAt(i));
        }
        x.town(5);
        int[] before = counts(x);
        long mean = x.mean();
        long coin = x.ask(0, 1);
        x.ask(0, (int) coin);
        int[] sizes = {x.status(0), x.status(1), x.status(2)};
        due("town(" + text + ")", x.town(7), -6);
        due("fault of " + text, x.fault(), place);
        for (int what = 0; what < 3; what++) {
            due("status " + what + " after " + text, x.status(what), sizes[what]);
        }
        due("mean after " + text, x.mean(), mean);
        due("coin after " + text, x.ask(0, (int) coin), coin);
        due("a FAULT is counted as -6", x.status(16), before[6] + 1);
    }

    /** Two STREETS, two HOUSES, one SHAKE; a ROW in 0 (bytes), 1 (shorts), a RULE in 2, a TOLD in 3, 5 and 6 empty. */
    private static StrengthenFirst some() {
        StrengthenFirst x = small();
        write(x, 0, 0, 1, 2, 3, 4, 5);
        write(x, 1, 1, 1, 0);
        x.rule(2, 0, 30);
        x.rule(3, 6, 1);
        x.act(2, 1, 5);
        x.row(7, 0, 1);
        x.town(7);
        return x;
    }

    /** MEANS by STEPS of 0 and 1: none 1403400, (1,0) 690600, (0,1) 1302000, (1,1) 558000. */
    private static StrengthenFirst small() {
        StrengthenFirst x = new StrengthenFirst();
        x.street(0, 1);
        x.street(1, 2);
        x.house(1, 5, 10, 20, 30);
        x.house(2, 1, 4, 6, 50);
        x.front(0, 0);
        x.shake(10, 2);
        return x;
    }

    private static StrengthenFirst full() {
        StrengthenFirst x = new StrengthenFirst();
        for (int i = 0; i < 12; i++) {
            x.street(i % 8, (i + 1) % 8);
        }
        for (int i = 0; i < 10; i++) {
            x.house(i % 8, i, 9 * i, 99 - 9 * i, 10 + i);
            x.front(i, i);
        }
        for (int i = 0; i < 4; i++) {
            x.shake(20 * i, 3 * i);
        }
        return x;
    }

    private static int stepSeed(int seed) {
        return seed * 1103515245 + 12345;
    }

    private static int drawOf(int seed, int n) {
        return (seed >>> 16) % n;
    }

    // ---- 1. the town ----

    private static void theTown() {
        sentence("CORNERS are 0 to 7");
        StrengthenFirst x = new StrengthenFirst();
        fine(x, "street(0, 7)", t -> t.street(0, 7), 0);
        fine(x, "street(7, 0)", t -> t.street(7, 0), 1);
        for (int off : new int[] {-1, 8, LOW, HIGH}) {
            refused(x, "street from " + off, t -> t.street(off, 1), -1);
            refused(x, "street to " + off, t -> t.street(1, off), -1);
            refused(x, "house at " + off, t -> t.house(off, 0, 0, 0, 1), -1);
        }
        sentence("STREETS: two unlike CORNERS");
        for (int c = 0; c < 8; c++) {
            int corner = c;
            refused(x, "street of one", t -> t.street(corner, corner), -6);
        }
        sentence("STREETS have numbers, from 0 on, 12 at most");
        for (int i = 2; i < 12; i++) {
            fine(x, "street", t -> t.street(0, 7), i);
        }
        refused(x, "a thirteenth", t -> t.street(0, 7), -7);
        sentence("HOUSES: WEAK (0 to 9), PEOPLE (0 to 99 each), COST (1 to 99)");
        fine(x, "the least", t -> t.house(0, 0, 0, 0, 1), 0);
        fine(x, "the most", t -> t.house(7, 9, 99, 99, 99), 1);
        int[][] off = {{-1, 0, 0, 1}, {10, 0, 0, 1}, {0, -1, 0, 1}, {0, 100, 0, 1}, {0, 0, -1, 1}, {0, 0, 100, 1},
            {0, 0, 0, 0}, {0, 0, 0, 100}, {LOW, 0, 0, 1}, {HIGH, 0, 0, 1}, {0, LOW, 0, 1}, {0, HIGH, 0, 1},
            {0, 0, LOW, 1}, {0, 0, HIGH, 1}, {0, 0, 0, LOW}, {0, 0, 0, HIGH}};
        for (int[] o : off) {
            refused(x, "a house", t -> t.house(1, o[0], o[1], o[2], o[3]), -6);
        }
        sentence("a FRONT: a STREET or none (at first), a NEXT: none (at first); STEPS 0 at first; PROPPED or not");
        int[] first = {0, 0, 0, 0, 1, NONE, NONE, 0, 0};
        int[] second = {7, 9, 99, 99, 99, NONE, NONE, 0, 0};
        for (int i = 0; i < 9; i++) {
            int what = i;
            fine(x, "of the least " + what, t -> t.houseOf(0, what), first[what]);
            fine(x, "of the most " + what, t -> t.houseOf(1, what), second[what]);
        }
        sentence("HOUSES have numbers, from 0 on, 10 at most");
        for (int i = 2; i < 10; i++) {
            fine(x, "house", t -> t.house(1, 1, 1, 1, 1), i);
        }
        refused(x, "an eleventh", t -> t.house(1, 1, 1, 1, 1), -7);
        sentence("STEPS (0 to 2)");
        fine(x, "2", t -> t.alter(0, 2, 2), 0);
        fine(x, "0", t -> t.alter(0, 2, 0), 2);
        for (int v : new int[] {-1, 3, LOW, HIGH}) {
            refused(x, "steps " + v, t -> t.alter(0, 2, v), -6);
        }
        sentence("SHAKES have numbers, from 0 on, 4 at most: a CHANCE (0 to 99), HARD (0 to 9)");
        fine(x, "the least", t -> t.shake(0, 0), 0);
        fine(x, "the most", t -> t.shake(99, 9), 1);
        int[][] shakes = {{-1, 0}, {100, 0}, {0, -1}, {0, 10}, {LOW, 0}, {HIGH, 0}, {0, LOW}, {0, HIGH}};
        for (int[] o : shakes) {
            refused(x, "a shake", t -> t.shake(o[0], o[1]), -6);
        }
        fine(x, "a third", t -> t.shake(1, 1), 2);
        fine(x, "a fourth", t -> t.shake(1, 1), 3);
        refused(x, "a fifth", t -> t.shake(1, 1), -7);
        sentence("COIN a year (1 to 999; 50 at first), SHUT (0 to 10; 5 at first), DAYPART (0 to 10; 4 at first)");
        int[] atFirst = {50, 5, 4};
        int[] least = {1, 0, 0};
        int[] most = {999, 10, 10};
        for (int i = 0; i < 3; i++) {
            int what = i;
            fine(x, "the most", t -> t.ask(what, most[what]), atFirst[what]);
            fine(x, "the least", t -> t.ask(what, least[what]), most[what]);
            for (int v : new int[] {least[i] - 1, most[i] + 1, LOW, HIGH}) {
                refused(x, "ask(" + what + ", " + v + ")", t -> t.ask(what, v), -6);
            }
        }
        sentence("A PURSE (0 at first), THE YEAR (0 at first), SEED (1 at first)");
        int[] status = {0, 0, 0, 0, 0, 0, 0, 1, 0};
        for (int i = 0; i < 9; i++) {
            due("status " + i, new StrengthenFirst().status(i), status[i]);
        }
    }

    private static void texts() {
        sentence("ITEM, then any number of times ; and ITEM");
        StrengthenFirst x = some();
        x.ask(0, 50);
        due("one", read(x, "coin 7"), 1);
        faulty(x, "coin 8;", 7);
        faulty(x, ";coin 8", 0);
        faulty(x, "coin 8;;coin 8", 7);
        faulty(x, "coin 8 ;coin 8", 6);
        faulty(x, "coin 8; coin 8", 7);
        faulty(x, "coin 8,coin 8", 6);
        StringBuilder long120 = new StringBuilder("coin 100");
        for (int i = 0; i < 16; i++) {
            long120.append(";coin 9");
        }
        due("a text of 120 letters", long120.length(), 120);
        due("items of 120 letters", read(x, long120.toString()), 17);
        due("the last one stands", x.ask(0, 50), 9);
        faulty(x, long120.toString().replace("coin 100", "coin  90"), 5);
        faulty(x, long120.substring(0, 119) + ";", 119);
        faulty(x, long120.substring(0, 119) + "x", 119);
        sentence("the number of elements, if it ends too early");
        String whole = "street 2 3;house 1 1 1 1 1 front 0 next 0;shake 1 1;shut 1;daypart 1;coin 1";
        for (int end = 0; end < whole.length(); end++) {
            boolean ends = end > 0 && Character.isDigit(whole.charAt(end - 1)) && endsAnItem(whole.substring(0, end));
            if (!ends) {
                faulty(x, whole.substring(0, end), end);
            }
        }
        due("the whole", read(x, whole), 6);
        sentence("the first place at which an element can't stand as such texts go on");
        StrengthenFirst y = small();
        for (int at = 0; at < whole.length(); at++) {
            if (!Character.isDigit(whole.charAt(at))) {
                faulty(y, whole.substring(0, at) + "!" + whole.substring(at + 1), at);
            }
        }
        sentence("a letter that is none: another case, above 255, below 0");
        faulty(y, "x", 0);
        for (long sign : new long[] {'C', 'c' + 65536L, -1L, LOW, 0L}) {
            write(y, 6, 2, sign, 'o', 'i', 'n', ' ', '3');
            refused(y, "a text that begins with " + sign, t -> t.town(6), -6);
            due("fault", y.fault(), 0);
        }
        sentence("what an ITEM can't begin with");
        faulty(y, "front 0", 0);
        faulty(y, "next 0", 0);
        faulty(y, "n", 0);
        faulty(y, "coin 1;front 0", 7);
        faulty(y, "coin 1;next", 7);
        wholeTown();
        sentence("As ints: of longs the lowest 32 bits");
        write(y, 6, 3, 'c' + (7L << 32), 'o', 'i', 'n', ' ', '3' - (1L << 32));
        fine(y, "letters of longs", t -> t.town(6), 1);
        due("coin", y.ask(0, 50), 3);
    }

    /** What is read is as what the calls make. */
    private static void wholeTown() {
        sentence("A TOWN is read from a ROW of letters");
        StrengthenFirst x = new StrengthenFirst();
        due("items", read(x, "street 0 3;street 3 7;house 3 5 10 20 30 front 0;house 7 1 4 6 50 next 0;"
            + "house 7 0 0 0 9 front 1 next 1;shake 10 2"), 6);
        due("cut", x.cut(0), 255 & ~(1 | 8 | 128));
        due("cut by 0", x.cut(1), 254);
        due("cut by 2", x.cut(4), 254 - 8);
        int[] want = {0, NONE, NONE, 0, 1, 1};
        for (int house = 0; house < 3; house++) {
            due("FRONT of " + house, x.houseOf(house, 5), want[2 * house]);
            due("NEXT of " + house, x.houseOf(house, 6), want[2 * house + 1]);
        }
        due("falls", x.falls(0, 0), 7);
        x.alter(2, 2, 2);
        due("mean", x.mean(), 10 * 1403400);
    }

    /** Of the whole text in texts(): an item's last NUMBER stands at the end. */
    private static boolean endsAnItem(String text) {
        String item = text.substring(text.lastIndexOf(';') + 1);
        int words = item.split(" ").length;
        return item.startsWith("street") ? words == 3 : item.startsWith("shake") ? words == 3
            : item.startsWith("house") ? words == 6 || words == 8 || words == 10 : words == 2;
    }

    private static void textNumbers() {
        sentence("of a NUMBER that may not be the place of its first digit");
        StrengthenFirst x = small();
        String[][] edges = {
            {"street ", "", "0", "7", "8", " 1"}, {"street 1 ", "", "0", "7", "8", ""},
            {"house ", "", "0", "7", "8", " 1 1 1 1"}, {"house 1 ", "", "0", "9", "10", " 1 1 1"},
            {"house 1 1 ", "", "0", "99", "100", " 1 1"}, {"house 1 1 1 ", "", "0", "99", "100", " 1"},
            {"house 1 1 1 1 ", "0", "1", "99", "100", ""}, {"house 1 1 1 1 1 front ", "", "0", "1", "2", ""},
            {"house 1 1 1 1 1 next ", "", "0", "1", "2", ""}, {"house 1 1 1 1 1 front 1 next ", "", "0", "1", "2", ""},
            {"shake ", "", "0", "99", "100", " 1"}, {"shake 1 ", "", "0", "9", "10", ""},
            {"shut ", "", "0", "10", "11", ""}, {"daypart ", "", "0", "10", "11", ""}, {"coin ", "0", "1", "999", "", ""},
        };
        for (String[] edge : edges) {
            for (int i = 2; i <= 3; i++) {
                StrengthenFirst y = small();
                due(edge[0] + edge[i] + edge[5], read(y, edge[0] + edge[i] + edge[5]), 1);
                due("fault", y.fault(), NONE);
            }
            for (int i = 1; i <= 4; i += 3) {
                if (!edge[i].isEmpty()) {
                    faulty(x, edge[0] + edge[i] + edge[5], edge[0].length());
                    faulty(x, edge[0] + edge[i], edge[0].length());
                    faulty(x, edge[0] + edge[i] + "x", edge[0].length());
                }
            }
            faulty(x, edge[0] + "-1" + edge[5], edge[0].length());
            faulty(x, edge[0] + " 1" + edge[5], edge[0].length());
            faulty(x, edge[0] + "999" + (edge[0].startsWith("coin") ? "9" : ""),
                edge[0].length() + (edge[0].startsWith("coin") ? 3 : 0));
        }
        sentence("B that is A, too");
        faulty(x, "street 0 0", 9);
        faulty(x, "street 7 007;coin 1", 9);
        sentence("NUMBERS (1 to 3 digits)");
        due("three digits", read(x, "coin 007;shut 000;daypart 010;shake 009 09"), 4);
        due("coin", x.ask(0, 50), 7);
        due("shut", x.ask(1, 5), 0);
        due("daypart", x.ask(2, 4), 10);
        faulty(x, "coin 0007", 5);
        faulty(x, "coin 0107", 8);
        faulty(x, "shut 0007", 8);
        faulty(x, "coin ", 5);
        faulty(x, "coin ;", 5);
        faulty(x, "coin x", 5);
        sentence("a HOUSE there is ahead of it");
        StrengthenFirst none = new StrengthenFirst();
        faulty(none, "house 0 0 0 0 1 next 0", 21);
        faulty(none, "house 0 0 0 0 1;house 0 0 0 0 1 next 1", 37);
        due("the one ahead", read(none, "house 0 0 0 0 1;house 0 0 0 0 1 next 0"), 2);
        due("next", none.houseOf(1, 6), 0);
        sentence("front S");
        faulty(none, "house 0 0 0 0 1 front 0", 22);
        faulty(none, "street 0 1;house 0 0 0 0 1 front 1", 33);
        due("the one ahead", read(none, "street 0 1;house 0 0 0 0 1 front 0"), 2);
        due("front", none.houseOf(2, 5), 0);
    }

    private static void textRooms() {
        sentence("what there is no room for can't stand: its word");
        StrengthenFirst x = new StrengthenFirst();
        due("houses up to ten", readTimes(x, "house 0 1 1 1 1", 10), 10);
        faulty(x, "coin 1;house 0 1 1 1 1", 7);
        due("streets up to twelve", readTimes(x, "street 0 1", 12), 12);
        faulty(x, "coin 1;street 0 1", 7);
        due("shakes up to four", readTimes(x, "shake 1 1", 4), 4);
        faulty(x, "coin 1;shake 1 1", 7);
        sentence("Whether there is room for a word is asked when its letters stand whole");
        faulty(x, "street", 0);
        faulty(x, "house", 0);
        faulty(x, "shake", 0);
        faulty(x, "streets", 0);
        faulty(x, "coin 1;shakes", 7);
        faulty(x, "house  1", 0);
        sentence("until then the first element that is not as it is the FAULT, or the number of elements");
        faulty(x, "stree", 5);
        faulty(x, "streex", 5);
        faulty(x, "hous", 4);
        faulty(x, "hou e", 3);
        faulty(x, "shak", 4);
        faulty(x, "sha", 3);
        faulty(x, "sh", 2);
        faulty(x, "s", 1);
        faulty(x, "shx", 2);
        faulty(x, "coin 1;hous ", 11);
        sentence("All is added to what there is, or nothing");
        StrengthenFirst y = new StrengthenFirst();
        faulty(y, "street 0 1;house 0 1 1 1 1;shake 1 1;coin 9;shut 9;daypart 9;shake 1 1;shake 1 1;shake 1 1;shake 1 1", 91);
        due("shut", y.ask(1, 5), 5);
        due("daypart", y.ask(2, 4), 4);
        due("with room for one less", read(y, "street 0 1;house 0 1 1 1 1;shake 1 1;coin 9;shake 1 1;shake 1 1"), 6);
        faulty(y, "shake 1 1;shake 1 1", 10);
        due("added", y.status(0) * 100 + y.status(1) * 10 + y.status(2), 113);
    }

    private static int readTimes(StrengthenFirst x, String item, int times) {
        int items = 0;
        for (int i = 0; i < times; i++) {
            items += read(x, item);
        }
        return items;
    }

    // ---- 2. a shake ----

    private static void aShake() {
        sentence("FALLS: 0 at least, 10 at most");
        for (int weak = 0; weak <= 9; weak++) {
            for (int hard = 0; hard <= 9; hard += 3) {
                for (int steps = 0; steps <= 2; steps++) {
                    StrengthenFirst x = new StrengthenFirst();
                    x.house(0, weak, 0, 0, 1);
                    x.shake(1, hard);
                    x.alter(0, 2, steps);
                    int sum = weak + hard - 4 * steps;
                    due("falls", x.falls(0, 0), Math.max(0, Math.min(10, sum)));
                    x.prop(0, true);
                    due("falls, propped", x.falls(0, 0), Math.max(0, Math.min(10, sum - 2)));
                }
            }
        }
        sentence("and 1 if its NEXT has more STEPS than it");
        for (int own = 0; own <= 2; own++) {
            for (int others = 0; others <= 2; others++) {
                StrengthenFirst x = new StrengthenFirst();
                x.house(0, 9, 0, 0, 1);
                x.house(0, 9, 0, 0, 1);
                x.shake(1, 0);
                x.next(0, 1);
                x.alter(0, 2, own);
                x.alter(1, 2, others);
                due("falls with " + own + " beside " + others, x.falls(0, 0), 9 - 4 * own + (others > own ? 1 : 0));
                due("the other has no next", x.falls(1, 0), 9 - 4 * others);
            }
        }
        sentence("WHOLE: 10 to the power of HOUSES");
        StrengthenFirst x = new StrengthenFirst();
        x.shake(99, 9);
        long power = 1;
        for (int houses = 0; houses <= 10; houses++) {
            due("of " + houses + " HOUSES", x.shuts(7, 0), power);
            x.house(0, 9, 99, 99, 1);
            power *= 10;
        }
        sentence("A CORNER that has no way to THE WAY OUT is CUT also without falls");
        StrengthenFirst y = new StrengthenFirst();
        due("no streets", y.cut(0), 254);
        y.street(1, 2);
        due("a street off the way out", y.cut(0), 254);
        y.street(2, 0);
        due("a way", y.cut(0), 254 - 6);
        sentence("CUT, if THE WAY OUT can't be come to from it by STREETS that are no fallen HOUSE's FRONT");
        y.house(7, 0, 0, 0, 1);
        y.house(7, 0, 0, 0, 1);
        y.front(0, 1);
        y.front(1, 1);
        for (int set = 1; set < 4; set++) {
            due("by any of two", y.cut(set), 254);
        }
        y.street(0, 1);
        due("another way", y.cut(3), 254 - 6);
        y.front(1, 2);
        due("by both", y.cut(3), 254);
        due("by one", y.cut(2), 254 - 6);
        sentence("those in others at a CUT CORNER are CAUGHT");
        StrengthenFirst z = new StrengthenFirst();
        z.house(0, 5, 10, 0, 1);
        z.house(1, 0, 3, 0, 1);
        z.shake(1, 0);
        z.ask(1, 10);
        due("at THE WAY OUT nobody is", z.lost(0, 0), 5 * 10 * 10 * 10 + 100 * 10 * 3);
        due("dead ones", z.dead(0, 0), 5 * 10 * 10 * 10);
        z.alter(0, 0, 0);
        z.alter(1, 0, 0);
        due("with nobody in them", z.lost(0, 0), 0);
        sentence("those in others: also in those with a FRONT");
        StrengthenFirst f = new StrengthenFirst();
        f.street(0, 1);
        f.street(1, 2);
        f.house(1, 5, 10, 0, 1);
        f.house(2, 3, 7, 0, 1);
        f.front(0, 0);
        f.front(1, 1);
        f.shake(1, 0);
        f.ask(1, 3);
        // 0 falls, 1 stands: 35 of 100, 7 CAUGHT; 1 falls, 0 stands: nobody is, 1's CORNER 2 is cut by its own FRONT
        due("lost", f.lost(0, 0), 50 * 100 + 30 * 70 + 35 * 3 * 7);
        due("dead", f.dead(0, 0), 50 * 100 + 30 * 70);
        sentence("MEAN of a year: of all SHAKES, CHANCE times (DAYPART ..)");
        StrengthenFirst m = new StrengthenFirst();
        m.house(0, 3, 1, 2, 1);
        due("no SHAKES", m.mean(), 0);
        m.shake(0, 9);
        due("CHANCE 0", m.mean(), 0);
        m.shake(1, 0);
        due("one", m.mean(), 4 * 30 + 6 * 60);
        m.ask(2, 0);
        due("DAYPART 0", m.mean(), 10 * 60);
        m.ask(2, 10);
        due("DAYPART 10", m.mean(), 10 * 30);
    }

    // ---- plans ----

    private static void aPlan() {
        sentence("n YEARS (1 to 20)");
        StrengthenFirst x = some();
        for (int n : new int[] {1, 20}) {
            due("plan of " + n, x.plan(2, n), n == 1 ? 690600 : 690600 + 19 * 558000);
            due("steps of " + n, x.steps(2, n), n == 1 ? 1 : 2);
            due("judge of " + n, x.judge(1, n), n == 1 ? 1302000 : 1302000 + 19 * 558000);
            due("best of " + n, x.best(n), n == 1 ? 690600 : 690600 + 19 * 558000);
            due("first of " + n, x.first(n, 1), 1);
            due("gap of " + n, x.gap(3, n), 1302000 - 690600);
            due("bound of " + n, x.bound(n), n * 558000);
            due("head of " + n, x.head(n), 2);
        }
        sentence("as long as PURSE is its COST at least");
        x.ask(0, 29);
        due("one less", x.steps(2, 1), 0);
        x.ask(0, 30);
        due("just so", x.steps(2, 1), 1);
        x.ask(0, 79);
        due("one less than both", x.steps(2, 1), 1);
        x.ask(0, 80);
        due("both", x.steps(2, 1), 2);
        sentence("each YEAR COIN comes to PURSE");
        x.ask(0, 1);
        x.rule(6, 6, 1);
        due("49 years' coins", x.steps(6, 20), 0);
        x.ask(0, 4);
        due("12 years are 48", x.steps(6, 12), 0);
        due("13 years are 52", x.steps(6, 13), 1);
        sentence("a YEAR ends at the first HOUSE that is too dear");
        x.ask(0, 35);
        due("the second is cheap, but behind a dear one", x.steps(6, 1), 0);
        due("the dear one in the second year", x.steps(6, 2), 1);
        due("judged so", x.judge(1, 1), 1403400);
        sentence("each HOUSE of the row gets one STEP in all");
        x.ask(0, 999);
        due("with all coins", x.steps(2, 20), 2);
        due("and no second STEP", x.plan(2, 20), 20 * 558000);
        sentence("not above 2: it is passed over, for nothing");
        StrengthenFirst y = small();
        y.alter(0, 2, 2);
        write(y, 0, 0, 0, 1);
        y.ask(0, 50);
        y.alter(1, 2, 1);
        long one = y.mean();
        y.alter(1, 2, 0);
        due("0 is passed over and 1 gets its STEP by all 50", y.judge(0, 1), one);
        y.ask(0, 49);
        due("49 are not enough", y.judge(0, 1), y.mean());
        y.alter(1, 2, 2);
        due("all passed over", y.judge(0, 20), 20 * y.mean());
        sentence("from how all is");
        due("a plan changes nothing", y.status(3) * 100 + y.status(4) * 10 + y.status(5), 400);
        sentence("PROPS stay through all of them");
        StrengthenFirst z = small();
        z.prop(0, true);
        z.ask(0, 1);
        z.rule(0, 0, 0);
        due("twenty years", z.plan(0, 20), 20 * z.mean());
        sentence("HOUSES (unlike ones) in a row: an empty one");
        z.row(1, 0, 0);
        due("no HOUSES", z.judge(1, 3), 3 * z.mean());
    }

    // ---- 3. rules ----

    private static void rulesAndOrders() {
        sentence("RULES have a KIND (0 to 6) and a (0 to 99)");
        StrengthenFirst x = some();
        for (int k = 0; k < 6; k++) {
            int kind = k;
            fine(x, "by 0", t -> t.rule(6, kind, 0), 1);
            due("holds", x.holds(6), kind);
            fine(x, "by 99", t -> t.rule(6, kind, 99), 1);
            due("says", x.says(6, 0), 99);
            for (int a : new int[] {-1, 100, LOW, HIGH}) {
                refused(x, "by " + a, t -> t.rule(6, kind, a), -6);
            }
        }
        sentence("an ORDER of all HOUSES with fewer than 2 STEPS");
        StrengthenFirst y = alike(4);
        y.alter(1, 2, 2);
        y.alter(2, 2, 1);
        for (int kind = 0; kind < 6; kind++) {
            order(y, kind, 99, kind == 2 || kind == 4 || kind == 5 ? "032" : "023");
        }
        for (int h = 0; h < 4; h++) {
            y.alter(h, 2, 2);
        }
        for (int kind = 0; kind < 6; kind++) {
            order(y, kind, 99, "");
        }
        sentence("of several the first");
        StrengthenFirst z = alike(10);
        for (int kind = 0; kind < 6; kind++) {
            order(z, kind, 99, "0123456789");
        }
        sentence("FULL: most PEOPLE first (DAYPART times DAY, and 10 less DAYPART times NIGHT)");
        z.alter(7, 0, 6);
        order(z, 1, 0, "7012345689");
        z.alter(3, 1, 7);
        order(z, 1, 0, "3701245689");
        z.ask(2, 10);
        order(z, 1, 0, "7012345689");
        z.ask(2, 0);
        order(z, 1, 0, "3012456789");
        sentence("STREET: those with a FRONT ahead of those without, each as FULL");
        z.street(0, 1);
        z.front(0, 0);
        z.front(9, 0);
        order(z, 3, 0, "0931245678");
        sentence("WEAK: greatest WEAK less 4 times STEPS first");
        StrengthenFirst w = new StrengthenFirst();
        for (int weak : new int[] {0, 4, 8, 9, 5}) {
            w.house(0, weak, 0, 0, 1);
        }
        order(w, 2, 0, "32410");
        w.alter(3, 2, 1);
        w.alter(2, 2, 1);
        order(w, 2, 0, "34120");
        sentence("PROP: as WEAK, but PROPPED ones last (each as WEAK)");
        w.prop(4, true);
        w.prop(1, true);
        order(w, 5, 0, "32041");
        order(w, 2, 0, "34120");
        w.alter(0, 2, 0);
        w.alter(3, 2, 0);
        w.alter(1, 2, 1);
        // 9 0 8 less 4: 4, and behind these 5 and 4 less 4
        order(w, 5, 0, "32041");
        w.alter(2, 2, 0);
        w.alter(3, 2, 1);
        w.house(0, 5, 0, 0, 1);
        w.alter(5, 2, 0);
        // 8, then 9 less 4 is as 5
        order(w, 5, 0, "235041");
        sentence("SAVES: of those whose COST is a at most; then, by numbers, those whose COST is above a");
        StrengthenFirst s = new StrengthenFirst();
        s.house(0, 4, 10, 10, 20);
        s.house(0, 4, 20, 20, 21);
        s.house(0, 4, 30, 30, 22);
        s.shake(1, 0);
        order(s, 4, 19, "012");
        order(s, 4, 20, "012");
        order(s, 4, 21, "102");
        order(s, 4, 22, "210");
        sentence("SAVES how many HOUSES have a COST of a at most");
        for (int a = 19; a <= 22; a++) {
            s.rule(0, 4, a);
            due("says", s.says(0, 4), a - 19);
        }
        tolds();
    }

    private static void tolds() {
        sentence("TOLD: by elements of a ROW: those that are such HOUSES and not told ahead, then the others by numbers");
        StrengthenFirst x = alike(5);
        x.alter(2, 2, 2);
        told(x, 2, "0134");
        told(x, 2, "4013", 4);
        told(x, 2, "4301", 4, 3, 4, 3, 4);
        told(x, 2, "1034", 2, 1, 2);
        told(x, 2, "1034", 5, -1, LOW, HIGH, 10, 31, 32, 33, 1);
        told(x, 3, "4301", 4 + (1L << 32), 3 - (1L << 40));
        told(x, 0, "1034", 257);
        told(x, 1, "1034", 65537);
        sentence("A HOUSE is once in an ORDER");
        told(x, 0, "1034", 1, 1, 1, 1, 1, 1, 1, 1, 1, 1, 1, 1, 1);
        sentence("as it was; a is its SHELF");
        write(x, 0, 0, 4, 3);
        x.rule(1, 6, 0);
        x.set(0, 0, 1);
        due("what is put in later", x.order(1, 0), 4);
        x.row(0, 0, 0);
        due("a new ROW there", x.order(1, 0), 4);
        x.rule(0, NONE, 0);
        due("NOTHING there", x.order(1, 0), 4);
        due("says", x.says(1, 6), 2);
        due("its a", x.says(1, 0), 0);
        write(x, 3, 0, 3);
        due("of its own SHELF", x.rule(3, 6, 3), 1);
        due("order", x.order(3, 0), 3);
        due("holds", x.holds(3), 6);
        due("no element any more", x.element(3, 0), 0);
        sentence("TOLD how many elements its ROW has");
        x.row(4, 3, 120);
        x.rule(5, 6, 4);
        due("120", x.says(5, 6), 120);
        x.row(4, 3, 0);
        x.rule(5, 6, 4);
        due("0", x.says(5, 6), 0);
    }

    private static void told(StrengthenFirst x, int sort, String want, long... elements) {
        write(x, 6, sort, elements);
        x.rule(7, 6, 6);
        orderIs(x, 7, want);
    }

    private static StrengthenFirst alike(int houses) {
        StrengthenFirst x = new StrengthenFirst();
        for (int i = 0; i < houses; i++) {
            x.house(0, 5, 5, 5, 5);
        }
        x.shake(1, 0);
        return x;
    }

    private static void order(StrengthenFirst x, int kind, int a, String want) {
        x.rule(0, kind, a);
        orderIs(x, 0, want);
    }

    private static void orderIs(StrengthenFirst x, int s, String want) {
        for (int i = 0; i < want.length(); i++) {
            due("place " + i + " of " + want + " by KIND " + x.holds(s), x.order(s, i), want.charAt(i) - '0');
        }
        due("behind " + want, x.order(s, want.length()), -5);
        due("ahead of " + want, x.order(s, -1), -5);
    }

    private static void bests() {
        sentence("BEST: with no more than 5 HOUSES with 0 STEPS");
        StrengthenFirst x = alike(6);
        x.rule(0, 0, 0);
        refused(x, "six", t -> t.best(1), -6);
        refused(x, "six", t -> t.first(1, 0), -6);
        refused(x, "six", t -> t.gap(0, 1), -1000006);
        x.alter(3, 2, 2);
        long five = x.mean();
        fine(x, "five", t -> t.first(1, 4), 5);
        fine(x, "five", t -> t.gap(0, 1), 0);
        x.ask(0, 1);
        fine(x, "five, without coins", t -> t.best(3), 3 * five);
        sentence("of several the first row");
        int[] rows = {0, 1, 2, 4, 5};
        for (int i = 0; i < 5; i++) {
            due("place " + i, x.first(20, i), rows[i]);
        }
        for (int h = 0; h < 6; h++) {
            x.alter(h, 2, 1);
        }
        x.prop(0, true);
        long none = x.mean();
        fine(x, "no such HOUSES", t -> t.best(2), 2 * none);
        refused(x, "no such HOUSES", t -> t.first(2, 0), -5);
        sentence("BOUND: n times the MEAN, if each HOUSE with 0 STEPS had 1");
        due("all have", x.bound(20), 20 * none);
        x.alter(0, 2, 0);
        due("one has none", x.bound(20), 20 * none);
        x.prop(0, false);
        x.alter(0, 2, 2);
        long two = x.mean();
        due("one has two", x.bound(1), two);
        StrengthenFirst wide = alike(10);
        for (int h = 0; h < 10; h++) {
            wide.alter(h, 2, 1);
        }
        long all = wide.mean();
        for (int h = 0; h < 10; h++) {
            wide.alter(h, 2, 0);
        }
        due("of ten with none", wide.bound(2), 2 * all);
        sentence("BOUND, whatever was asked ahead");
        due("of a new town", small().bound(1), 558000);
        StrengthenFirst asked = small();
        asked.shuts(1, 0);
        due("after shuts()", asked.bound(1), 558000);
        asked.dead(0, 0);
        due("after dead()", asked.bound(1), 558000);
        sentence("may be below 0: second STEPS");
        StrengthenFirst y = alike(1);
        y.alter(0, 2, 1);
        y.rule(0, 0, 0);
        long before = y.mean();
        y.alter(0, 2, 2);
        long after = y.mean();
        y.alter(0, 2, 1);
        due("gap", y.gap(0, 1), after - before);
        due("below 0", after < before ? 1 : 0, 1);
        sentence("WORTH of a HOUSE (may be below 0)");
        StrengthenFirst z = new StrengthenFirst();
        z.house(0, 0, 0, 0, 1);
        z.house(0, 4, 1, 1, 1);
        z.next(1, 0);
        z.shake(1, 0);
        due("worth", z.worth(0), -1000);
        due("worth", z.worth(1), 4000);
        z.alter(1, 2, 2);
        due("cut at 0", z.worth(0), 0);
        sentence("The HOUSE of the greatest WORTH by COST (cut toward 0): quotients as they are cut, of several the first");
        StrengthenFirst q = new StrengthenFirst();
        q.house(0, 0, 0, 0, 99);
        q.house(0, 9, 1, 1, 1);
        q.next(1, 0);
        q.alter(1, 2, 2);
        q.alter(0, 2, 1);
        due("the only one with fewer than 2", q.which(), 0);
        q.alter(0, 2, 2);
        due("none", q.which(), NONE);
        quotients();
    }

    /** WORTH below 0 by COST is cut toward 0, too: -10 by 99 is 0, and no less than another's 0. */
    private static void quotients() {
        StrengthenFirst x = new StrengthenFirst();
        x.house(0, 0, 0, 0, 99);
        x.house(0, 4, 0, 0, 1);
        x.house(0, 0, 1, 0, 1);
        x.next(2, 0);
        x.ask(2, 0);
        x.shake(1, 0);
        due("worth", x.worth(0), 0);
        x.ask(2, 1);
        due("worth", x.worth(0), -1000);
        x.alter(2, 2, 1);
        x.alter(2, 2, 0);
        due("-1000 by 99 is below 0", x.which(), 1);
        StrengthenFirst y = new StrengthenFirst();
        y.house(0, 0, 0, 0, 99);
        y.house(0, 0, 1, 0, 60);
        y.next(1, 0);
        y.ask(2, 1);
        y.shake(1, 0);
        due("-100 by 99 is -1", y.worth(0), -100);
        due("and 0 is more", y.which(), 1);
        StrengthenFirst z = new StrengthenFirst();
        z.house(0, 1, 0, 1, 99);
        z.house(0, 1, 0, 1, 98);
        z.house(0, 1, 0, 1, 49);
        z.shake(1, 0);
        z.ask(2, 8);
        due("worths alike", z.worth(0), z.worth(2));
        due("2000 by 49 is most", z.which(), 2);
        z.alter(2, 2, 2);
        due("2000 by 98 and by 99 are both 20", z.which(), 0);
        sentence("COST (1 to 99)");
        StrengthenFirst one = new StrengthenFirst();
        one.house(0, 1, 0, 10, 1);
        one.house(0, 1, 0, 15, 2);
        one.shake(1, 0);
        due("by a COST of 1", one.which(), 0);
        one.alter(1, 1, 20);
        due("alike by 1 and by 2", one.which(), 0);
        one.alter(1, 1, 21);
        due("more by 2", one.which(), 1);
    }

    private static void yearsInTruth() {
        sentence("n YEARS (1 to 20) go by in truth");
        StrengthenFirst x = small();
        x.rule(0, 2, 0);
        fine(x, "one", t -> t.years(0, 1), x.status(6));
        due("THE YEAR", x.status(5), 1);
        int gone = x.status(6);
        int more = x.years(0, 20);
        due("THE YEAR", x.status(5), 21);
        due("GONE", x.status(6), gone + more);
        sentence("A HOUSE FILLS: by DAY, NIGHT 1 more for each STEP (99 at most), at the end of each YEAR");
        StrengthenFirst y = new StrengthenFirst();
        y.house(0, 0, 97, 99, 99);
        y.house(0, 0, 98, 0, 99);
        y.house(0, 0, 50, 60, 99);
        y.alter(0, 2, 1);
        y.alter(1, 2, 2);
        y.ask(0, 1);
        y.rule(0, 0, 0);
        int[][] due = {{97, 99, 98, 0, 50, 60}, {98, 99, 99, 2, 50, 60}, {99, 99, 99, 4, 50, 60}, {99, 99, 99, 6, 50, 60}};
        for (int year = 0; year < 4; year++) {
            for (int i = 0; i < 6; i++) {
                due("people in year " + year, y.houseOf(i / 2, 2 + i % 2), due[year][i]);
            }
            y.years(0, 1);
        }
        sentence("a STEP that is made in the YEAR fills at its end");
        y.ask(0, 999);
        y.years(0, 1);
        due("by DAY", y.houseOf(2, 2), 51);
        sentence("STEPS stay, PURSE is what is left");
        due("purse", y.status(4), 4 + 999 - 2 * 99);
        due("steps of all", y.status(3), 2 + 2 + 1);
        sentence("A YEAR in truth: by its ORDER as it is then");
        StrengthenFirst z = alike(3);
        z.rule(0, 2, 0);
        z.ask(0, 5);
        int[] steps = {100, 110, 111, 211, 221, 222, 222};
        for (int want : steps) {
            z.years(0, 1);
            due("steps", z.houseOf(0, 7) * 100 + z.houseOf(1, 7) * 10 + z.houseOf(2, 7), want);
        }
        due("what nobody gets stays", z.status(4), 5);
        tenHouses();
        sentence("PROPS stay for that YEAR only");
        StrengthenFirst p = alike(2);
        p.prop(0, true);
        p.rule(0, 5, 0);
        p.ask(0, 5);
        p.years(0, 1);
        due("by PROP the other is first", p.houseOf(1, 7), 1);
        due("no longer propped", p.houseOf(0, 8), 0);
        propsHoldInTheirYear();
    }

    private static void tenHouses() {
        sentence("YEARS in truth of ten HOUSES");
        StrengthenFirst x = new StrengthenFirst();
        for (int i = 0; i < 10; i++) {
            x.house(1, 9, 1 + i, 1 + i, 99);
            x.alter(i, 2, i % 3);
        }
        for (int i = 0; i < 4; i++) {
            x.shake(99, 9);
        }
        x.ask(0, 1);
        x.ask(1, 10);
        x.rule(0, 0, 0);
        // whoever does not fall is CAUGHT, and SHUT is 10: all are GONE by each SHAKE that comes
        int seed = 1;
        int due = 0;
        for (int year = 0; year < 20; year++) {
            for (int shake = 0; shake < 4; shake++) {
                seed = stepSeed(seed);
                if (drawOf(seed, 1000) < 99) {
                    for (int i = 0; i < 11; i++) {
                        seed = stepSeed(seed);
                    }
                    due += 55 + 9 * year;
                }
            }
        }
        due("gone", x.years(0, 20), due);
        due("draws", x.status(7), seed);
        due("some came", due > 0 ? 1 : 0, 1);
        for (int i = 0; i < 10; i++) {
            due("DAY of " + i, x.houseOf(i, 2), 1 + i + 20 * (i % 3));
        }
        sentence("THE IMAGE keeps GONE, too");
        x.image();
        int kept = x.status(6);
        while (x.status(6) == kept) {
            x.years(0, 1);
        }
        x.restore();
        due("gone in all", x.status(6), kept);
    }

    /** WEAK 2 with a PROP never falls by HARD 0, without it does by a DRAW below 2. */
    private static void propsHoldInTheirYear() {
        int seed = 1;
        while (!comesAndDraws(seed, 0)) {
            seed++;
        }
        for (int propped = 0; propped < 2; propped++) {
            StrengthenFirst x = new StrengthenFirst();
            x.house(0, 2, 7, 7, 99);
            x.shake(99, 0);
            x.ask(0, 1);
            x.rule(0, 0, 0);
            x.prop(0, propped == 1);
            x.seed(seed);
            due("gone, propped " + propped, x.years(0, 1), propped == 1 ? 0 : 7);
        }
    }

    /** By that SEED the first SHAKE comes, and the first HOUSE draws that. */
    private static boolean comesAndDraws(int seed, int draw) {
        int first = stepSeed(seed);
        return drawOf(first, 1000) < 99 && drawOf(stepSeed(stepSeed(first)), 10) == draw;
    }

    private static void draws() {
        sentence("it comes, if that is below CHANCE");
        int seed = 1;
        while (drawOf(stepSeed(seed), 1000) != 0) {
            seed++;
        }
        StrengthenFirst x = new StrengthenFirst();
        x.shake(0, 9);
        x.rule(0, 0, 0);
        x.seed(seed);
        x.years(0, 1);
        due("0 is not below 0: one DRAW", x.status(7), stepSeed(seed));
        x = new StrengthenFirst();
        x.shake(1, 9);
        x.rule(0, 0, 0);
        x.seed(seed);
        x.years(0, 1);
        due("0 is below 1: one for the hour, too", x.status(7), stepSeed(stepSeed(seed)));
        sentence("a DRAW below 10: by DAY, if below DAYPART");
        for (int hour = 0; hour < 10; hour++) {
            int from = 1;
            while (drawOf(stepSeed(from), 1000) >= 99 || drawOf(stepSeed(stepSeed(from)), 10) != hour) {
                from++;
            }
            for (int daypart = 0; daypart <= 10; daypart++) {
                StrengthenFirst y = new StrengthenFirst();
                y.house(0, 9, 3, 4, 99);
                y.shake(99, 9);
                y.ask(0, 1);
                y.ask(2, daypart);
                y.rule(0, 0, 0);
                y.seed(from);
                due("draw " + hour + ", DAYPART " + daypart, y.years(0, 1), hour < daypart ? 3 : 4);
                due("draws: the SHAKE, the hour, the HOUSE", y.status(7), stepSeed(stepSeed(stepSeed(from))));
            }
        }
        sentence("of each HOUSE a DRAW below 10: it falls, if below FALLS");
        for (int draw = 0; draw < 10; draw++) {
            int from = 1;
            while (!comesAndDraws(from, draw)) {
                from++;
            }
            for (int weak = 0; weak < 10; weak++) {
                StrengthenFirst y = new StrengthenFirst();
                y.house(0, weak, 5, 5, 99);
                y.shake(99, 0);
                y.shake(99, 9);
                y.ask(0, 1);
                y.rule(0, 0, 0);
                y.seed(from);
                y.alter(0, 2, 0);
                int second = stepSeed(stepSeed(stepSeed(stepSeed(from))));
                int other = drawOf(second, 1000) < 99 && drawOf(stepSeed(stepSeed(second)), 10) < Math.min(10, weak + 9) ? 5 : 0;
                due("draw " + draw + ", WEAK " + weak, y.years(0, 1), (draw < weak ? 5 : 0) + other);
            }
        }
        caughtIsCut();
        sentence("SEED becomes SEED times 1103515245, and 12345 (an int, wrapping); its upper 16 bits, no sign, modulo n");
        for (int start : new int[] {0, 1, -1, LOW, HIGH, 123456789, -987654321}) {
            StrengthenFirst y = new StrengthenFirst();
            y.house(0, 5, 1, 1, 99);
            for (int i = 0; i < 4; i++) {
                y.shake(99, 0);
            }
            y.ask(0, 1);
            y.rule(0, 0, 0);
            y.seed(start);
            int at = start;
            int gone = 0;
            for (int i = 0; i < 80; i++) {
                at = stepSeed(at);
                if (drawOf(at, 1000) < 99) {
                    at = stepSeed(stepSeed(at));
                    gone += drawOf(at, 10) < 5 ? 1 : 0;
                }
            }
            due("gone in twenty years", y.years(0, 20), gone);
            due("the SEED behind them", y.status(7), at);
            due("seed()", y.seed(7), at);
        }
    }

    private static void caughtIsCut() {
        sentence("CAUGHT times SHUT / 10, cut: for each SHAKE by itself");
        int seed = 0;
        int second;
        do {
            seed++;
            int first = stepSeed(seed);
            second = drawOf(first, 1000) < 99 ? stepSeed(stepSeed(stepSeed(first))) : 0;
        } while (second == 0 || drawOf(second, 1000) >= 99);
        for (int shut = 0; shut <= 10; shut++) {
            StrengthenFirst x = new StrengthenFirst();
            x.house(3, 0, 19, 19, 99);
            x.shake(99, 0);
            x.shake(99, 0);
            x.ask(0, 1);
            x.ask(1, shut);
            x.rule(0, 0, 0);
            x.seed(seed);
            due("SHUT " + shut, x.years(0, 1), 2 * (19 * shut / 10));
        }
        sentence("CAUGHT of all HOUSES together is cut, not of each");
        StrengthenFirst x = new StrengthenFirst();
        x.house(3, 0, 9, 9, 99);
        x.house(4, 0, 9, 9, 99);
        x.shake(99, 0);
        x.ask(0, 1);
        x.rule(0, 0, 0);
        x.seed(seed);
        due("18 times 5 / 10", x.years(0, 1), 9);
    }

    // ---- shelves ----

    private static void shelves() {
        sentence("SHELVES 0 to 7 hold NOTHING (at first)");
        StrengthenFirst x = new StrengthenFirst();
        for (int s = 0; s < 8; s++) {
            due("holds", x.holds(s), NONE);
        }
        sentence("A ROW has a SORT (0 to 3) and 0 to 120 elements, 0 at first");
        for (int i = 0; i < 8; i++) {
            int s = i;
            fine(x, "no elements", t -> t.row(s, s % 4, 0), 1);
            fine(x, "120 elements", t -> t.row(s, s % 4, 120), 1);
            due("holds", x.holds(s), 100 + s % 4);
            due("the first", x.element(s, 0), 0);
            due("the last", x.element(s, 119), 0);
            x.set(s, 119, 7);
            x.set(s, 0, 7);
            fine(x, "a new ROW", t -> t.row(s, s % 4, 120), 1);
            due("the first", x.element(s, 0), 0);
            due("the last", x.element(s, 119), 0);
        }
        sentence("what is put in keeps its lowest bits");
        long[] put = {127, 128, 255, 256, -128, -129, 32767, 32768, 65535, 65536, HIGH, HIGH + 1L, LOW, LOW - 1L,
            1L << 32, Long.MAX_VALUE, Long.MIN_VALUE, -1L};
        for (long v : put) {
            write(x, 0, 0, v);
            write(x, 1, 1, v);
            write(x, 2, 2, v);
            write(x, 3, 3, v);
            due("a byte of " + v, x.element(0, 0), (byte) v);
            due("a short of " + v, x.element(1, 0), (short) v);
            due("an int of " + v, x.element(2, 0), (int) v);
            due("a long of " + v, x.element(3, 0), v);
        }
        sentence("set: the first and the last element, and none beside");
        x.row(0, 2, 3);
        fine(x, "the first", t -> t.set(0, 0, 5), 1);
        fine(x, "the last", t -> t.set(0, 2, 6), 1);
        due("between", x.element(0, 1), 0);
        for (int i : new int[] {-1, 3, 119, 120, LOW, HIGH}) {
            refused(x, "set at " + i, t -> t.set(0, i, 1), -5);
            fine(x, "element at " + i, t -> t.element(0, i), 0);
        }
        x.row(4, 2, 0);
        refused(x, "set in an empty ROW", t -> t.set(4, 0, 1), -5);
        sentence("copy: as they were ahead");
        write(x, 0, 2, 1, 2, 3, 4, 5);
        fine(x, "up", t -> t.copy(0, 0, 0, 2, 3), 1);
        elementsAre(x, 0, 1, 2, 1, 2, 3);
        fine(x, "down", t -> t.copy(0, 0, 1, 0, 4), 1);
        elementsAre(x, 0, 2, 1, 2, 3, 3);
        fine(x, "all", t -> t.copy(0, 0, 0, 0, 5), 1);
        elementsAre(x, 0, 2, 1, 2, 3, 3);
        write(x, 5, 2, 9, 9, 9);
        fine(x, "to another's end", t -> t.copy(0, 5, 3, 1, 2), 1);
        elementsAre(x, 5, 9, 3, 3);
        fine(x, "none, at both ends", t -> t.copy(0, 5, 5, 3, 0), 1);
        fine(x, "none, of an empty ROW", t -> t.copy(4, 4, 0, 0, 0), 1);
        elementsAre(x, 5, 9, 3, 3);
        sentence("holds: NONE: no such SHELF");
        for (int s : new int[] {-1, 8, LOW, HIGH}) {
            fine(x, "holds(" + s + ")", t -> t.holds(s), NONE);
            fine(x, "element of " + s, t -> t.element(s, 0), 0);
        }
    }

    private static void elementsAre(StrengthenFirst x, int s, long... want) {
        for (int i = 0; i < want.length; i++) {
            due("element " + i, x.element(s, i), want[i]);
        }
    }

    private static void actsWrap() {
        sentence("ACTS of a RULE, with x (wrapping)");
        StrengthenFirst x = new StrengthenFirst();
        x.rule(7, 0, 99);
        due("orders", x.act(7, 0, HIGH), HIGH + 7);
        due("orders", x.act(7, 0, LOW), LOW + 7);
        due("costs", x.act(7, 1, (1 << 30) - 7), LOW);
        due("costs", x.act(7, 1, HIGH), (HIGH + 7) * 2);
        due("saves", x.act(7, 2, LOW), (LOW + 7) * 2 ^ (LOW - 99 + 7));
        x.rule(6, 3, 99);
        due("x + 1 of STREET", x.act(6, 0, HIGH), LOW + 6 + 99);
        int orders = LOW + 6 + 99;
        int ordersLess = HIGH - 99 + 1 + 6 + 99;
        due("saves of STREET", x.act(6, 2, HIGH), (orders * 2 ^ ordersLess) - 6);
        x.rule(5, 5, 0);
        due("costs of PROP: - of the lowest int is itself", x.act(5, 1, (1 << 30) - 5), LOW);
        due("costs of PROP", x.act(5, 1, HIGH), -((HIGH + 5) * 2 * 3));
        x.rule(4, 2, 0);
        due("costs of WEAK", x.act(4, 1, HIGH), (HIGH + 4) * 2 * 3);
        x.row(3, 0, 0);
        x.rule(2, 6, 3);
        due("costs of TOLD", x.act(2, 1, LOW), (LOW - 3 + 2) * 2);
        int told = (LOW - 3 + 2) * 2 ^ (LOW - 3 + 2);
        due("saves of TOLD", x.act(2, 2, LOW), told * 2);
        x.rule(1, 1, 99);
        due("orders of FULL", x.act(1, 0, HIGH - 1), HIGH + 99);
        sentence("THE TRACE: the first 20 are kept; NONE: none such");
        int[] bodies = {31, 12, 11, 30, 20, 10, 30, 20, 10};
        due("the longest", x.act(6, 2, 1), ((1 + 1 + 6 + 99) * 2 ^ (1 - 99 + 1 + 6 + 99)) - 6);
        due("all", x.status(8), bodies.length);
        for (int i = 0; i < bodies.length; i++) {
            due("trace", x.trace(i), bodies[i]);
        }
        for (int i : new int[] {-1, bodies.length, 19, 20, 21, LOW, HIGH}) {
            fine(x, "trace(" + i + ")", t -> t.trace(i), NONE);
        }
        sentence("0, and no TRACE then: none there, no such act");
        int[][] off = {{-1, 0}, {8, 0}, {LOW, 0}, {HIGH, 0}, {0, 0}, {3, 0}, {7, -1}, {7, 3}, {7, LOW}, {7, HIGH}};
        for (int[] o : off) {
            x.act(6, 2, 1);
            fine(x, "act(" + o[0] + ", " + o[1] + ")", t -> t.act(o[0], o[1], 5), 0);
            due("no TRACE", x.trace(0), NONE);
            due("no bodies", x.status(8), 0);
        }
        fine(x, "the last act", t -> t.act(7, 2, 0), 14 ^ (7 - 99));
        due("a TRACE", x.trace(0), 12);
    }

    // ---- refusals ----

    private static void refusalsOfShelves() {
        StrengthenFirst x = some();
        sentence("row: -1; -4; -6 SORT; -7 n above 120");
        for (int s : new int[] {-1, 8, LOW, HIGH}) {
            refused(x, "row", t -> t.row(s, 0, 1), -1);
        }
        refused(x, "-1 ahead of -4", t -> t.row(8, 0, -1), -1);
        refused(x, "-1 ahead of -6", t -> t.row(8, 4, 1), -1);
        refused(x, "-1 ahead of -7", t -> t.row(8, 0, 121), -1);
        for (int n : new int[] {-1, LOW}) {
            refused(x, "below 0", t -> t.row(0, 0, n), -4);
            refused(x, "-4 ahead of -6", t -> t.row(0, 4, n), -4);
        }
        for (int sort : new int[] {-1, 4, LOW, HIGH}) {
            refused(x, "no SORT", t -> t.row(0, sort, 1), -6);
            refused(x, "-6 ahead of -7", t -> t.row(0, sort, 121), -6);
        }
        for (int n : new int[] {121, HIGH}) {
            refused(x, "above 120", t -> t.row(0, 0, n), -7);
        }
        sentence("set: -1; -2; -3; -5");
        for (int s : new int[] {-1, 8, LOW, HIGH}) {
            refused(x, "set", t -> t.set(s, -1, 1), -1);
        }
        for (int s : new int[] {2, 3}) {
            refused(x, "a RULE, -2 ahead of -5", t -> t.set(s, -1, 1), -2);
            refused(x, "a RULE", t -> t.set(s, 0, 1), -2);
        }
        refused(x, "NOTHING, -3 ahead of -5", t -> t.set(5, -1, 1), -3);
        refused(x, "NOTHING", t -> t.set(5, 0, 1), -3);
        refused(x, "beyond", t -> t.set(0, 5, 1), -5);
        sentence("copy: -1; -2 also of two SORTS (when both hold something); -3 either; -4 n; -5 i or j below 0, or an end that "
            + "isn't there");
        for (int s : new int[] {-1, 8, LOW, HIGH}) {
            refused(x, "-1 ahead of -2", t -> t.copy(s, 2, 0, 0, 1), -1);
            refused(x, "-1 ahead of -3", t -> t.copy(s, 5, 0, 0, 1), -1);
            refused(x, "-1 ahead of -4", t -> t.copy(0, s, 0, 0, -1), -1);
            refused(x, "-1 ahead of -5", t -> t.copy(0, s, -1, 0, 1), -1);
            refused(x, "-1 of q, -2 of p", t -> t.copy(2, s, 0, 0, 1), -1);
        }
        refused(x, "p a RULE", t -> t.copy(2, 0, 0, 0, 1), -2);
        refused(x, "q a RULE", t -> t.copy(0, 2, 0, 0, 1), -2);
        refused(x, "both RULES", t -> t.copy(2, 2, 0, 0, 1), -2);
        refused(x, "two SORTS", t -> t.copy(0, 1, 0, 0, 1), -2);
        refused(x, "-2 ahead of -3", t -> t.copy(2, 5, 0, 0, 1), -2);
        refused(x, "-2 ahead of -3", t -> t.copy(5, 2, 0, 0, 1), -2);
        refused(x, "-2 ahead of -4", t -> t.copy(0, 1, 0, 0, -1), -2);
        refused(x, "-2 ahead of -5", t -> t.copy(0, 1, 0, 9, 1), -2);
        refused(x, "p NOTHING", t -> t.copy(5, 0, 0, 0, 1), -3);
        refused(x, "q NOTHING", t -> t.copy(0, 5, 0, 0, 1), -3);
        refused(x, "both NOTHING", t -> t.copy(5, 6, 0, 0, 1), -3);
        refused(x, "-3 ahead of -4", t -> t.copy(5, 0, 0, 0, -1), -3);
        refused(x, "-3 ahead of -5", t -> t.copy(0, 5, -1, 0, 1), -3);
        for (int n : new int[] {-1, LOW}) {
            refused(x, "n below 0", t -> t.copy(0, 0, 0, 1, n), -4);
            refused(x, "-4 ahead of -5", t -> t.copy(0, 0, -1, 9, n), -4);
        }
        int[][] off = {{-1, 0, 1}, {0, -1, 1}, {LOW, 0, 1}, {0, LOW, 1}, {5, 0, 1}, {0, 5, 1}, {4, 0, 2}, {0, 4, 2}, {0, 0, 6},
            {0, 0, HIGH}, {HIGH, 0, HIGH}, {0, HIGH, HIGH}, {HIGH, 0, 1}, {0, HIGH, 1}, {-1, 0, 0}, {0, -1, 0}, {1, 0, HIGH}};
        for (int[] o : off) {
            refused(x, "beyond", t -> t.copy(0, 0, o[0], o[1], o[2]), -5);
        }
    }

    private static void refusalsOfRules() {
        StrengthenFirst x = some();
        sentence("rule: -1 SHELF, KIND; -2, -3 (of TOLD: the SHELF a, -1 too); -6 a");
        for (int off : new int[] {-1, 8, LOW, HIGH}) {
            refused(x, "no SHELF", t -> t.rule(off, 0, 0), -1);
            refused(x, "no SHELF, for NOTHING", t -> t.rule(off, NONE, 0), -1);
            refused(x, "-1 ahead of -6", t -> t.rule(off, 0, 100), -1);
            refused(x, "-1 ahead of -2", t -> t.rule(off, 6, 2), -1);
            refused(x, "-1 ahead of -3", t -> t.rule(off, 6, 5), -1);
            refused(x, "TOLD of no SHELF", t -> t.rule(6, 6, off), -1);
        }
        for (int off : new int[] {-2, 7, LOW, HIGH}) {
            refused(x, "no KIND", t -> t.rule(6, off, 0), -1);
            refused(x, "no KIND, -1 ahead of -6", t -> t.rule(6, off, 100), -1);
        }
        refused(x, "TOLD of a RULE", t -> t.rule(6, 6, 2), -2);
        refused(x, "TOLD of a TOLD", t -> t.rule(6, 6, 3), -2);
        refused(x, "TOLD of NOTHING", t -> t.rule(6, 6, 5), -3);
        refused(x, "TOLD of its own SHELF with NOTHING", t -> t.rule(6, 6, 6), -3);
        refused(x, "TOLD of its own SHELF with a RULE", t -> t.rule(2, 6, 2), -2);
        refused(x, "a wrong a on a ROW", t -> t.rule(0, 0, 100), -6);
        fine(x, "NOTHING", t -> t.rule(6, NONE, 0), 0);
        fine(x, "NOTHING for a RULE", t -> t.rule(2, NONE, 0), 0);
        fine(x, "NOTHING for a ROW", t -> t.rule(0, NONE, 0), 0);
        due("holds", x.holds(0), NONE);
        sentence("says: -1 SHELF, KIND; -2 also a RULE of another KIND; -3");
        StrengthenFirst y = some();
        for (int off : new int[] {-1, 8, LOW, HIGH}) {
            refused(y, "no SHELF", t -> t.says(off, 0), -1);
        }
        for (int off : new int[] {-1, 7, LOW, HIGH}) {
            refused(y, "no KIND", t -> t.says(2, off), -1);
            refused(y, "no KIND, -1 ahead of -2", t -> t.says(0, off), -1);
            refused(y, "no KIND, -1 ahead of -3", t -> t.says(5, off), -1);
        }
        for (int k = 0; k < 7; k++) {
            int kind = k;
            refused(y, "a ROW", t -> t.says(0, kind), -2);
            refused(y, "NOTHING", t -> t.says(5, kind), -3);
        }
        sentence("a RULE that isn't of the KIND wanted, or one under it");
        int[] above = {NONE, 0, 0, 1, 0, 2, 0};
        for (int k = 0; k < 7; k++) {
            int kind = k;
            y.rule(6, kind, 1);
            for (int w = 0; w < 7; w++) {
                int wanted = w;
                boolean is = wanted == kind || wanted == 0 || above[kind] == wanted;
                if (!is) {
                    refused(y, "a RULE of KIND " + kind + " as " + wanted, t -> t.says(6, wanted), -2);
                } else if (wanted == 0) {
                    fine(y, "a RULE of KIND " + kind + " as RULE", t -> t.says(6, 0), 1);
                }
            }
        }
        sentence("FULL, STREET the HOUSE that is first in its ORDER (NONE); WEAK, PROP likewise the last one");
        StrengthenFirst z = alike(1);
        z.alter(0, 2, 2);
        for (int kind : new int[] {1, 2, 3, 5}) {
            z.rule(0, kind, 0);
            int of = kind;
            fine(z, "nobody in its ORDER", t -> t.says(0, of), NONE);
        }
        z.house(0, 9, 9, 9, 1);
        for (int kind : new int[] {1, 2, 3, 5}) {
            z.rule(0, kind, 0);
            int of = kind;
            fine(z, "the only one", t -> t.says(0, of), 1);
        }
        StrengthenFirst ten = alike(10);
        for (int kind : new int[] {1, 2, 3, 5}) {
            ten.rule(0, kind, 0);
            int of = kind;
            fine(ten, "of ten", t -> t.says(0, of), kind % 2 == 1 && kind < 5 ? 0 : 9);
        }
        sentence("order: -1; -2; -3; -5");
        for (int off : new int[] {-1, 8, LOW, HIGH}) {
            refused(y, "no SHELF", t -> t.order(off, -1), -1);
        }
        refused(y, "a ROW, -2 ahead of -5", t -> t.order(0, -1), -2);
        refused(y, "NOTHING, -3 ahead of -5", t -> t.order(5, -1), -3);
        for (int off : new int[] {-1, 2, 10, 11, LOW, HIGH}) {
            refused(y, "no such place", t -> t.order(2, off), -5);
        }
        fine(y, "the last place", t -> t.order(2, 1), 1);
    }

    private static void refusalsOfTheTown() {
        StrengthenFirst x = full();
        sentence("street: -1; -6 they are one; -7");
        refused(x, "-1 ahead of -6", t -> t.street(8, 8), -1);
        refused(x, "-1 ahead of -7", t -> t.street(0, 8), -1);
        refused(x, "-6 ahead of -7", t -> t.street(3, 3), -6);
        refused(x, "no room", t -> t.street(3, 4), -7);
        sentence("house: -1; -6; -7");
        refused(x, "-1 ahead of -6", t -> t.house(8, 10, 0, 0, 1), -1);
        refused(x, "-1 ahead of -7", t -> t.house(8, 1, 0, 0, 1), -1);
        refused(x, "-6 ahead of -7", t -> t.house(1, 1, 0, 0, 0), -6);
        refused(x, "no room", t -> t.house(1, 1, 0, 0, 1), -7);
        sentence("shake: -6; -7");
        refused(x, "-6 ahead of -7", t -> t.shake(100, 0), -6);
        refused(x, "no room", t -> t.shake(1, 0), -7);
        houseRows();
        StrengthenFirst y = some();
        sentence("houseOf: -5: no such one, another what");
        for (int off : new int[] {-1, 2, 9, 10, LOW, HIGH}) {
            refused(y, "no such one", t -> t.houseOf(off, 0), -5);
        }
        for (int off : new int[] {-1, 9, LOW, HIGH}) {
            refused(y, "another what", t -> t.houseOf(0, off), -5);
        }
        sentence("front: -11 (counted as -1)");
        for (int off : new int[] {-1, 2, 9, 10, LOW, HIGH}) {
            refused(y, "no HOUSE", t -> t.front(off, 0), -11);
            refused(y, "no HOUSE, NONE", t -> t.front(off, NONE), -11);
        }
        for (int off : new int[] {-2, 2, 11, 12, LOW, HIGH}) {
            refused(y, "no STREET", t -> t.front(0, off), -11);
        }
        fine(y, "NONE", t -> t.front(0, NONE), 0);
        fine(y, "the last STREET", t -> t.front(0, 1), NONE);
        fine(y, "the first STREET", t -> t.front(0, 0), 1);
        sentence("next: -11; -16 it is itself (counted as -1, -6)");
        for (int off : new int[] {-1, 2, 9, 10, LOW, HIGH}) {
            refused(y, "no HOUSE", t -> t.next(off, 0), -11);
            refused(y, "no HOUSE, -11 ahead of -16", t -> t.next(off, off), -11);
        }
        for (int off : new int[] {-2, 2, 9, 10, LOW, HIGH}) {
            refused(y, "no other", t -> t.next(0, off), -11);
        }
        refused(y, "itself", t -> t.next(0, 0), -16);
        refused(y, "itself", t -> t.next(1, 1), -16);
        fine(y, "another", t -> t.next(1, 0), NONE);
        fine(y, "NONE", t -> t.next(1, NONE), 0);
        sentence("alter: -1; -6");
        for (int off : new int[] {-1, 2, 9, 10, LOW, HIGH}) {
            refused(y, "no HOUSE", t -> t.alter(off, 0, 0), -1);
            refused(y, "-1 ahead of -6", t -> t.alter(off, 3, 100), -1);
        }
        for (int off : new int[] {-1, 3, LOW, HIGH}) {
            refused(y, "another what", t -> t.alter(0, off, 0), -6);
        }
        for (int what = 0; what < 2; what++) {
            int of = what;
            for (int off : new int[] {-1, 100, LOW, HIGH}) {
                refused(y, "people", t -> t.alter(0, of, off), -6);
            }
            int was = y.houseOf(0, 2 + what);
            fine(y, "99", t -> t.alter(0, of, 99), was);
            fine(y, "0", t -> t.alter(0, of, 0), 99);
        }
        sentence("prop: 1; 0 if it was so. -1");
        for (int off : new int[] {-1, 2, 9, 10, LOW, HIGH}) {
            refused(y, "no HOUSE", t -> t.prop(off, true), -1);
            refused(y, "no HOUSE", t -> t.prop(off, false), -1);
        }
        fine(y, "it was so", t -> t.prop(0, false), 0);
        fine(y, "props", t -> t.prop(0, true), 1);
        fine(y, "it was so", t -> t.prop(0, true), 0);
        fine(y, "takes it away", t -> t.prop(0, false), 1);
        sentence("ask: -6");
        for (int off : new int[] {-1, 3, LOW, HIGH}) {
            refused(y, "another what", t -> t.ask(off, 5), -6);
        }
    }

    private static void houseRows() {
        sentence("houses: -1; -2; -3; -4 n; -5; -6 n is no multiple of five");
        StrengthenFirst x = some();
        write(x, 6, 2, 7, 9, 99, 99, 99, 0, 0, 0, 0, 1, 8);
        for (int off : new int[] {-1, 8, LOW, HIGH}) {
            refused(x, "no SHELF", t -> t.houses(off, -1, -1), -1);
        }
        refused(x, "a RULE, -2 ahead of -4", t -> t.houses(2, 0, -1), -2);
        refused(x, "a RULE, -2 ahead of -5", t -> t.houses(2, 0, 5), -2);
        refused(x, "a RULE, -2 ahead of -6", t -> t.houses(2, 0, 3), -2);
        refused(x, "NOTHING, -3 ahead of -4", t -> t.houses(5, 0, -1), -3);
        refused(x, "NOTHING, -3 ahead of -5", t -> t.houses(5, 0, 5), -3);
        refused(x, "NOTHING, -3 ahead of -6", t -> t.houses(5, 0, 3), -3);
        for (int off : new int[] {-1, -5, LOW}) {
            refused(x, "n below 0, -4 ahead of -5", t -> t.houses(6, -1, off), -4);
            refused(x, "n below 0, -4 ahead of -6", t -> t.houses(6, 0, off), -4);
        }
        int[][] off = {{-1, 5}, {7, 5}, {11, 5}, {12, 0}, {0, 15}, {0, HIGH}, {HIGH, 5}, {HIGH, HIGH}, {LOW, 5}, {-1, 0}};
        for (int[] o : off) {
            refused(x, "beyond", t -> t.houses(6, o[0], o[1]), -5);
        }
        refused(x, "-5 ahead of -6", t -> t.houses(6, 9, 4), -5);
        for (int n : new int[] {1, 2, 3, 4, 6, 7, 8, 9, 11}) {
            refused(x, "no multiple", t -> t.houses(6, 0, n), -6);
        }
        fine(x, "none", t -> t.houses(6, 0, 0), 0);
        fine(x, "none, at the end", t -> t.houses(6, 11, 0), 0);
        sentence("until one that can't be one");
        fine(x, "two", t -> t.houses(6, 0, 10), 2);
        int[] last = {7, 9, 99, 99, 99, NONE, NONE, 0, 0};
        for (int what = 0; what < 9; what++) {
            due("the first one's " + what, x.houseOf(2, what), last[what]);
        }
        long[][] never = {{8, 0, 0, 0, 1}, {-1, 0, 0, 0, 1}, {0, 10, 0, 0, 1}, {0, -1, 0, 0, 1}, {0, 0, 100, 0, 1},
            {0, 0, -1, 0, 1}, {0, 0, 0, 100, 1}, {0, 0, 0, -1, 1}, {0, 0, 0, 0, 0}, {0, 0, 0, 0, 100}};
        for (long[] one : never) {
            StrengthenFirst y = new StrengthenFirst();
            write(y, 0, 3, 1, 1, 1, 1, 1, one[0], one[1], one[2], one[3], one[4], 1, 1, 1, 1, 1);
            fine(y, "the one ahead of it comes", t -> t.houses(0, 0, 15), 1);
            due("one HOUSE", y.status(1), 1);
            fine(y, "it itself doesn't", t -> t.houses(0, 5, 10), 0);
            fine(y, "the one behind it does", t -> t.houses(0, 10, 5), 1);
        }
        sentence("or that there is no room for");
        StrengthenFirst y = new StrengthenFirst();
        long[] many = new long[120];
        java.util.Arrays.fill(many, 1);
        write(y, 0, 1, many);
        fine(y, "ten of twenty-four", t -> t.houses(0, 0, 120), 10);
        fine(y, "none", t -> t.houses(0, 0, 120), 0);
        due("ten", y.status(1), 10);
    }

    private static void refusalsOfTexts() {
        sentence("town: -1; -2; -3; -6 a FAULT");
        StrengthenFirst x = some();
        due("the FAULT ahead", x.fault(), 0);
        for (int off : new int[] {-1, 8, LOW, HIGH}) {
            refused(x, "no SHELF", t -> t.town(off), -1);
        }
        refused(x, "a RULE", t -> t.town(2), -2);
        refused(x, "a TOLD", t -> t.town(3), -2);
        refused(x, "NOTHING", t -> t.town(5), -3);
        sentence("The FAULT of the latest town() that came to a ROW; NONE: there was none, or none yet");
        fine(new StrengthenFirst(), "none yet", t -> t.fault(), NONE);
        due("a FAULT", read(x, "coin 5;shut"), -6);
        due("its place", x.fault(), 11);
        x.town(5);
        x.town(2);
        x.town(8);
        due("it stays", x.fault(), 11);
        due("a TOWN", read(x, "coin 5"), 1);
        due("none", x.fault(), NONE);
        x.town(5);
        due("none stays", x.fault(), NONE);
        x.row(7, 0, 0);
        due("an empty ROW", x.town(7), -6);
        due("its FAULT", x.fault(), 0);
        refused(x, "an empty ROW again", t -> t.town(7), -6);
    }

    private static void refusalsOfShakes() {
        StrengthenFirst x = some();
        sentence("falls: -1");
        for (int off : new int[] {-1, 2, 9, 10, LOW, HIGH}) {
            refused(x, "no HOUSE", t -> t.falls(off, 0), -1);
        }
        int[] shakes = {-1, 1, 3, 4, LOW, HIGH};
        for (int off : shakes) {
            refused(x, "no SHAKE", t -> t.falls(0, off), -1);
        }
        fine(x, "the last of both", t -> t.falls(1, 0), 3);
        sentence("cut: -1");
        for (int off : new int[] {-1, 4, 5, 1024, LOW, HIGH, LOW + 1}) {
            refused(x, "no such HOUSES", t -> t.cut(off), -1);
        }
        fine(x, "none", t -> t.cut(0), 0xF8);
        fine(x, "all", t -> t.cut(3), 0xFE);
        sentence("lost, dead: -1; -6 HOUR");
        for (int off : shakes) {
            refused(x, "no SHAKE", t -> t.lost(off, 0), -1);
            refused(x, "no SHAKE", t -> t.dead(off, 1), -1);
            refused(x, "-1 ahead of -6", t -> t.lost(off, 2), -1);
            refused(x, "-1 ahead of -6", t -> t.dead(off, -1), -1);
        }
        for (int off : new int[] {-1, 2, LOW, HIGH}) {
            refused(x, "no HOUR", t -> t.lost(0, off), -6);
            refused(x, "no HOUR", t -> t.dead(0, off), -6);
        }
        fine(x, "by DAY", t -> t.lost(0, 0), 9180);
        fine(x, "by NIGHT", t -> t.lost(0, 1), 17270);
        fine(x, "dead by DAY", t -> t.dead(0, 0), 8200);
        fine(x, "dead by NIGHT", t -> t.dead(0, 1), 15800);
        sentence("shuts: -1");
        for (int off : new int[] {-1, 8, LOW, HIGH}) {
            refused(x, "no CORNER", t -> t.shuts(off, 0), -1);
        }
        for (int off : shakes) {
            refused(x, "no SHAKE", t -> t.shuts(1, off), -1);
        }
        fine(x, "THE WAY OUT", t -> t.shuts(0, 0), 0);
        fine(x, "the last CORNER", t -> t.shuts(7, 0), 100);
        sentence("worth: -1000001; -1000006 it has 2 STEPS (counted as -1, -6)");
        for (int off : new int[] {-1, 2, 9, 10, LOW, HIGH}) {
            refused(x, "no HOUSE", t -> t.worth(off), -1000001);
        }
        x.alter(0, 2, 1);
        fine(x, "1 STEP", t -> t.worth(0), 690600 - 156000);
        x.alter(0, 2, 2);
        refused(x, "2 STEPS", t -> t.worth(0), -1000006);
        sentence("narrow: NONE: no STREETS. -11 (counted as -1)");
        for (int off : shakes) {
            refused(x, "no SHAKE", t -> t.narrow(off), -11);
        }
        StrengthenFirst y = new StrengthenFirst();
        refused(y, "no SHAKE ahead of no STREETS", t -> t.narrow(0), -11);
        y.shake(1, 1);
        fine(y, "no STREETS", t -> t.narrow(0), NONE);
        y.street(0, 1);
        y.street(0, 1);
        y.street(0, 1);
        fine(y, "none is shut: of several the first", t -> t.narrow(0), 0);
        y.house(0, 4, 0, 0, 1);
        y.house(0, 4, 0, 0, 1);
        y.front(0, 2);
        y.front(1, 1);
        fine(y, "of two the first", t -> t.narrow(0), 1);
        y.next(0, 1);
        y.alter(1, 2, 1);
        fine(y, "the other", t -> t.narrow(0), 2);
        fine(narrowTown(5, 3, 3), "51 of 100 against 50", t -> t.narrow(0), 1);
        fine(narrowTown(2, 1, 1), "20 of 100 against 19", t -> t.narrow(0), 0);
        fine(narrowTown(0, 0, 0), "none against none", t -> t.narrow(0), 0);
        fine(narrowTown(0, 0, 1), "none against 10", t -> t.narrow(0), 1);
    }

    /** HOUSE 0 alone in STREET 0, the two others both in STREET 1. */
    private static StrengthenFirst narrowTown(int alone, int one, int other) {
        StrengthenFirst x = new StrengthenFirst();
        x.street(0, 1);
        x.street(0, 1);
        x.house(0, alone, 0, 0, 1);
        x.house(0, one, 0, 0, 1);
        x.house(0, other, 0, 0, 1);
        x.front(0, 0);
        x.front(1, 1);
        x.front(2, 1);
        x.shake(1, 0);
        return x;
    }

    private static void refusalsOfPlans() {
        StrengthenFirst x = some();
        sentence("plan, steps: -1; -2; -3; -6");
        for (int off : new int[] {-1, 8, LOW, HIGH}) {
            refused(x, "no SHELF, -1 ahead of -6", t -> t.plan(off, 0), -1);
            refused(x, "no SHELF, -1 ahead of -6", t -> t.steps(off, 0), -1);
            refused(x, "no SHELF, -1 ahead of -6", t -> t.judge(off, 0), -1);
        }
        refused(x, "a ROW, -2 ahead of -6", t -> t.plan(0, 0), -2);
        refused(x, "a ROW, -2 ahead of -6", t -> t.steps(0, 21), -2);
        refused(x, "NOTHING, -3 ahead of -6", t -> t.plan(5, 0), -3);
        refused(x, "NOTHING, -3 ahead of -6", t -> t.steps(5, 21), -3);
        for (int n : new int[] {0, 21, -1, LOW, HIGH}) {
            refused(x, "YEARS", t -> t.plan(2, n), -6);
            refused(x, "YEARS", t -> t.steps(2, n), -6);
            refused(x, "YEARS", t -> t.judge(1, n), -6);
            refused(x, "YEARS", t -> t.bound(n), -6);
        }
        sentence("judge: -1; -2; -3; -6 n, an element that is no HOUSE, two alike");
        refused(x, "a RULE, -2 ahead of -6", t -> t.judge(2, 0), -2);
        refused(x, "NOTHING, -3 ahead of -6", t -> t.judge(5, 0), -3);
        for (int off : new int[] {-1, 2, 9, 10, 32, LOW, HIGH}) {
            write(x, 6, 2, 0, off);
            refused(x, "no HOUSE " + off, t -> t.judge(6, 1), -6);
            write(x, 6, 2, off);
            refused(x, "no HOUSE " + off, t -> t.judge(6, 1), -6);
        }
        write(x, 6, 2, 0, 0);
        refused(x, "two alike", t -> t.judge(6, 1), -6);
        write(x, 6, 2, 0, 1, 0);
        refused(x, "two alike, not one behind the other", t -> t.judge(6, 1), -6);
        x.row(6, 2, 120);
        refused(x, "120 alike", t -> t.judge(6, 1), -6);
        write(x, 6, 3, 1L << 32, (1L << 32) + 1);
        fine(x, "longs as ints", t -> t.judge(6, 1), 690600);
        write(x, 6, 3, 0, 1L << 32);
        refused(x, "two alike as ints", t -> t.judge(6, 1), -6);
        StrengthenFirst y = full();
        write(y, 6, 0, 9, 8, 7, 6, 5, 4, 3, 2, 1, 0);
        y.ask(0, 9);
        long still = y.mean();
        fine(y, "all ten, too dear in the first year", t -> t.judge(6, 1), still);
    }

    private static void refusalsOfBest() {
        StrengthenFirst x = some();
        StrengthenFirst six = full();
        six.rule(0, 0, 0);
        for (int n : new int[] {0, 21, -1, LOW, HIGH}) {
            sentence("best: -6 n, more than 5 such HOUSES");
            refused(x, "YEARS", t -> t.best(n), -6);
            refused(six, "YEARS and HOUSES", t -> t.best(n), -6);
            sentence("first: -5; -6 likewise");
            refused(x, "YEARS", t -> t.first(n, 0), -6);
            refused(x, "-5 ahead of -6", t -> t.first(n, 2), -5);
            refused(x, "-5 ahead of -6", t -> t.first(n, -1), -5);
            sentence("gap: -1000001; -1000002; -1000003; -1000006 likewise");
            refused(x, "YEARS", t -> t.gap(2, n), -1000006);
            refused(x, "no SHELF ahead of YEARS", t -> t.gap(8, n), -1000001);
            refused(x, "a ROW ahead of YEARS", t -> t.gap(0, n), -1000002);
            refused(x, "NOTHING ahead of YEARS", t -> t.gap(5, n), -1000003);
            sentence("head: -5: none holds a RULE; -6");
            refused(x, "YEARS", t -> t.head(n), -6);
        }
        sentence("first: -5");
        for (int off : new int[] {-1, 2, 5, 10, LOW, HIGH}) {
            refused(x, "no such place", t -> t.first(1, off), -5);
        }
        fine(x, "the first place", t -> t.first(1, 0), 0);
        fine(x, "the last place", t -> t.first(1, 1), 1);
        sentence("more than 5 such HOUSES");
        refused(six, "ten", t -> t.best(1), -6);
        refused(six, "ten", t -> t.first(1, 0), -6);
        refused(six, "ten", t -> t.gap(0, 1), -1000006);
        for (int h = 0; h < 4; h++) {
            six.alter(h, 2, 1 + h % 2);
        }
        refused(six, "six", t -> t.best(1), -6);
        refused(six, "six", t -> t.first(1, 5), -6);
        six.alter(4, 2, 2);
        due("five", six.first(1, 4) >= 5 ? 1 : 0, 1);
        refused(six, "five, the sixth place", t -> t.first(1, 5), -5);
        for (int off : new int[] {-1, 8, LOW, HIGH}) {
            refused(x, "no SHELF", t -> t.gap(off, 1), -1000001);
        }
        refused(x, "a ROW", t -> t.gap(0, 1), -1000002);
        refused(x, "NOTHING", t -> t.gap(5, 1), -1000003);
        sentence("head: -5: none holds a RULE");
        StrengthenFirst y = small();
        y.row(0, 0, 3);
        refused(y, "NOTHING and a ROW", t -> t.head(1), -5);
        refused(y, "-5 ahead of -6", t -> t.head(0), -5);
        y.rule(7, 0, 0);
        fine(y, "the last SHELF", t -> t.head(1), 7);
        y.rule(0, 0, 0);
        fine(y, "of several the first", t -> t.head(1), 0);
        y.rule(7, NONE, 0);
        fine(y, "the first SHELF alone", t -> t.head(1), 0);
        y.rule(0, NONE, 0);
        refused(y, "none any more", t -> t.head(1), -5);
    }

    private static void refusalsOfYearsAndImages() {
        sentence("years: -1; -2; -3; -6");
        StrengthenFirst x = some();
        for (int off : new int[] {-1, 8, LOW, HIGH}) {
            refused(x, "no SHELF, -1 ahead of -6", t -> t.years(off, 0), -1);
        }
        refused(x, "a ROW, -2 ahead of -6", t -> t.years(0, 0), -2);
        refused(x, "NOTHING, -3 ahead of -6", t -> t.years(5, 0), -3);
        for (int n : new int[] {0, 21, -1, LOW, HIGH}) {
            refused(x, "YEARS", t -> t.years(2, n), -6);
        }
        sentence("restore: -6 there is none");
        refused(x, "no IMAGE", t -> t.restore(), -6);
        x.years(2, 2);
        fine(x, "an IMAGE", t -> t.image(), 2);
        x.years(2, 3);
        fine(x, "restored", t -> t.restore(), 2);
        fine(x, "restored again", t -> t.restore(), 2);
        sentence("THE IMAGE of all but SHELVES (and THE IMAGE, REFUSALS, the FAULT, THE TRACE)");
        List<Long> image = stateOf(x);
        x.rule(5, 3, 7);
        x.rule(2, NONE, 0);
        x.act(3, 2, 1);
        read(x, "street 3 4;house 1 1 1 1 1;shake 1 1;coin 9");
        read(x, "coin 5;");
        x.seed(5);
        x.alter(0, 2, 0);
        x.prop(1, true);
        x.street(9, 9);
        int[] refusals = counts(x);
        fine(x, "restored", t -> t.restore(), 2);
        due("a RULE stays", x.holds(5), 3);
        due("NOTHING stays", x.holds(2), NONE);
        due("THE TRACE stays", x.status(8), 6);
        due("the FAULT stays", x.fault(), 7);
        for (int number = 1; number <= 7; number++) {
            due("REFUSALS stay", x.status(10 + number), refusals[number]);
        }
        x.rule(5, NONE, 0);
        x.rule(2, 0, 30);
        x.act(2, 1, 5);
        x.row(7, 0, 1);
        x.town(7);
        List<Long> after = stateOf(x);
        for (int i = 0; i < image.size(); i++) {
            due("place " + i + " of the state", after.get(i), image.get(i));
        }
        sentence("an IMAGE is not changed by what comes after it, nor by restore()");
        int day = x.houseOf(0, 2);
        x.alter(0, 0, 77);
        due("restored", x.restore(), 2);
        due("DAY", x.houseOf(0, 2), day);
        x.alter(0, 0, 78);
        due("restored", x.restore(), 2);
        due("DAY", x.houseOf(0, 2), day);
        sentence("a new IMAGE is taken instead of the one ahead");
        x.alter(0, 0, 78);
        due("image", x.image(), 2);
        x.alter(0, 0, 79);
        due("restored", x.restore(), 2);
        due("DAY", x.houseOf(0, 2), 78);
    }

    private static void nothingIsRefused() {
        sentence("(nothing is refused)");
        StrengthenFirst x = some();
        for (int off : new int[] {-1, 8, LOW, HIGH}) {
            fine(x, "element of no SHELF", t -> t.element(off, 0), 0);
            fine(x, "element of no SHELF", t -> t.element(off, off), 0);
            fine(x, "an element that isn't there", t -> t.element(0, off), 0);
            fine(x, "holds", t -> t.holds(off), NONE);
            fine(x, "trace", t -> t.trace(off + (off == 8 ? 20 : 0)), NONE);
        }
        fine(x, "element of a RULE", t -> t.element(2, 0), 0);
        fine(x, "element of a TOLD", t -> t.element(3, 0), 0);
        fine(x, "element of NOTHING", t -> t.element(5, 0), 0);
        fine(x, "seed", t -> t.seed(LOW), 1);
        fine(x, "seed", t -> t.seed(HIGH), LOW);
        fine(x, "seed", t -> t.seed(0), HIGH);
        fine(x, "seed", t -> t.seed(-1), 0);
    }

    // ---- empty and full ----

    private static void emptyTown() {
        sentence("No STREETS, HOUSES, SHAKES");
        StrengthenFirst x = new StrengthenFirst();
        for (int what = 0; what <= 8; what++) {
            due("status " + what, x.status(what), what == 7 ? 1 : 0);
        }
        x.row(0, 0, 0);
        for (int kind = 0; kind < 6; kind++) {
            x.rule(1 + kind, kind, 50);
        }
        x.rule(7, 6, 0);
        for (int shelf = 1; shelf < 8; shelf++) {
            int s = shelf;
            refused(x, "order", t -> t.order(s, 0), -5);
            fine(x, "plan", t -> t.plan(s, 20), 0);
            fine(x, "steps", t -> t.steps(s, 20), 0);
            fine(x, "gap", t -> t.gap(s, 20), 0);
        }
        fine(x, "judge", t -> t.judge(0, 20), 0);
        fine(x, "mean", t -> t.mean(), 0);
        fine(x, "which", t -> t.which(), NONE);
        fine(x, "best", t -> t.best(20), 0);
        refused(x, "first", t -> t.first(20, 0), -5);
        fine(x, "bound", t -> t.bound(20), 0);
        fine(x, "head", t -> t.head(20), 1);
        fine(x, "cut", t -> t.cut(0), 254);
        refused(x, "cut", t -> t.cut(1), -1);
        refused(x, "lost", t -> t.lost(0, 0), -1);
        refused(x, "houseOf", t -> t.houseOf(0, 0), -5);
        refused(x, "front", t -> t.front(0, NONE), -11);
        refused(x, "next", t -> t.next(0, NONE), -11);
        fine(x, "says of SAVES", t -> t.says(5, 4), 0);
        fine(x, "says of FULL", t -> t.says(2, 1), NONE);
        fine(x, "years without SHAKES", t -> t.years(1, 20), 0);
        due("no DRAW", x.status(7), 1);
        due("twenty YEARS' COINS", x.status(4), 1000);
        due("THE YEAR", x.status(5), 20);
        sentence("A SHAKE that does not come takes one DRAW");
        x.shake(0, 0);
        x.shake(0, 9);
        fine(x, "years of SHAKES that never come", t -> t.years(1, 2), 0);
        due("four DRAWS", x.status(7), stepSeed(stepSeed(stepSeed(stepSeed(1)))));
        fine(x, "lost of no HOUSES", t -> t.lost(1, 1), 0);
        fine(x, "dead of no HOUSES", t -> t.dead(1, 0), 0);
        fine(x, "WHOLE of no HOUSES", t -> t.shuts(7, 1), 1);
        fine(x, "THE WAY OUT", t -> t.shuts(0, 1), 0);
    }

    private static void fullTown() {
        sentence("12 STREETS, 10 HOUSES, 4 SHAKES: the last of each");
        StrengthenFirst x = full();
        due("status", x.status(0) * 10000 + x.status(1) * 100 + x.status(2), 121004);
        fine(x, "front", t -> t.front(9, 11), 9);
        fine(x, "next", t -> t.next(8, 9), NONE);
        fine(x, "houseOf", t -> t.houseOf(9, 1), 9);
        fine(x, "falls", t -> t.falls(9, 3), 10);
        fine(x, "alter", t -> t.alter(9, 2, 1), 0);
        fine(x, "falls by a wall", t -> t.falls(8, 0), 9);
        fine(x, "prop", t -> t.prop(9, true), 1);
        fine(x, "cut by all", t -> t.cut(1023), 254);
        fine(x, "cut by all but HOUSE 0", t -> t.cut(1022), 240);
        refused(x, "cut", t -> t.cut(1024), -1);
        tenFronts();
        sentence("sums fit a long");
        StrengthenFirst y = new StrengthenFirst();
        for (int i = 0; i < 10; i++) {
            y.house(1, 9, 99, 99, 99);
        }
        for (int i = 0; i < 4; i++) {
            y.shake(99, 9);
        }
        y.ask(0, 1);
        y.rule(0, 0, 0);
        long lost = 10_000_000_000L * 10 * 990;
        fine(y, "lost", t -> t.lost(3, 0), lost);
        fine(y, "dead", t -> t.dead(3, 1), lost);
        fine(y, "mean", t -> t.mean(), lost * 10 * 99 * 4);
        fine(y, "plan", t -> t.plan(0, 20), lost * 10 * 99 * 4 * 20);
        due("no wrap-around", lost * 10 * 99 * 4 * 20 > 0 ? 1 : 0, 1);
        fine(y, "shuts", t -> t.shuts(7, 0), 10_000_000_000L);
        y.ask(1, 10);
        y.ask(2, 0);
        for (int i = 0; i < 10; i++) {
            y.alter(i, 2, 2);
            y.prop(i, true);
        }
        fine(y, "8 of 10 dead, 2 of 10 caught with SHUT 10", t -> t.lost(0, 1), lost);
        fine(y, "dead", t -> t.dead(0, 1), lost / 10 * 8);
    }

    /** CORNER 1 is CUT if HOUSES 1 to 8 fall, and 0 or 9: all by 9 tenths. */
    private static void tenFronts() {
        sentence("of all HOUSES its FALLS, or 10 less those, multiplied: ten HOUSES with FRONTS");
        StrengthenFirst x = new StrengthenFirst();
        for (int i = 0; i < 9; i++) {
            x.street(0, 1);
        }
        for (int i = 0; i < 10; i++) {
            x.house(1, 9, 1, 1, 1);
            x.front(i, i % 9);
        }
        x.shake(1, 0);
        long eight = 9L * 9 * 9 * 9 * 9 * 9 * 9 * 9;
        fine(x, "shuts", t -> t.shuts(1, 0), 99 * eight);
        fine(x, "shuts", t -> t.shuts(0, 0), 0);
        fine(x, "shuts", t -> t.shuts(2, 0), 10_000_000_000L);
        fine(x, "dead", t -> t.dead(0, 0), 900_000_000_000L);
        fine(x, "lost: of 0 and 9 one stands", t -> t.lost(0, 0), 900_000_000_000L + 5 * 18 * eight);
        fine(x, "mean", t -> t.mean(), 10 * (900_000_000_000L + 5 * 18 * eight));
        fine(x, "narrow", t -> t.narrow(0), 0);
        fine(x, "cut", t -> t.cut(1023), 254);
        fine(x, "cut by all but 9", t -> t.cut(511), 254);
        fine(x, "cut by all but 8", t -> t.cut(1023 - 256), 252);
    }

    private static void statuses() {
        sentence("11 to 17: REFUSALS -1 to -7. NONE for another what");
        StrengthenFirst x = some();
        int[] before = counts(x);
        x.street(8, 0);
        for (int i = 0; i < 2; i++) {
            x.set(2, 0, 0);
        }
        for (int i = 0; i < 3; i++) {
            x.set(5, 0, 0);
        }
        for (int i = 0; i < 4; i++) {
            x.row(0, 0, -1);
        }
        for (int i = 0; i < 5; i++) {
            x.set(0, -1, 0);
        }
        for (int i = 0; i < 6; i++) {
            x.ask(0, 0);
        }
        for (int i = 0; i < 7; i++) {
            x.row(0, 0, 121);
        }
        for (int number = 1; number <= 7; number++) {
            due("REFUSALS -" + number, x.status(10 + number), before[number] + number);
        }
        for (int off : new int[] {-1, 9, 10, 18, 19, LOW, HIGH}) {
            fine(x, "status(" + off + ")", t -> t.status(off), NONE);
        }
    }

    private static void manyCalls() {
        sentence("An object is used for at most 512 calls");
        StrengthenFirst x = new StrengthenFirst();
        x.rule(0, 0, 0);
        x.ask(0, 999);
        x.house(1, 9, 99, 99, 99);
        x.shake(99, 9);
        x.seed(LOW);
        int gone = 0;
        for (int call = 0; call < 500; call++) {
            gone += x.years(0, 20);
        }
        due("THE YEAR", x.status(5), 10_000);
        due("PURSE", x.status(4), 9_990_000 - 2 * 99);
        due("GONE", x.status(6), gone);
        due("all are GONE at once", gone % 99, 0);
        due("DAY", x.houseOf(0, 2), 99);
        for (int call = 0; call < 512; call++) {
            x.street(0, 0);
        }
        due("REFUSALS", x.status(16), 512);
    }
}
