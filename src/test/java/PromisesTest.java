/** Each promise of ../shared/DOC.md by answers reckoned by hand: ordinary inputs, edges, wrong inputs. */
public final class PromisesTest {
    private static final int NONE = StrengthenFirst.NONE;
    private static int wrong = 0;
    private static int promise = 0;

    private static void due(String what, long got, long want) {
        if (got != want) {
            wrong++;
            System.out.println("promise " + promise + ": " + what + " answered " + got + ", due is " + want);
        }
    }

    public static void main(String[] args) {
        newObject();
        shelves();
        ruleAndHolds();
        says();
        streetsAndHouses();
        changes();
        towns();
        faults();
        rooms();
        faultsOfNumbers();
        shakes();
        walls();
        lostAndMean();
        edgesOfOdds();
        worthAndWhich();
        orders();
        plans();
        judges();
        bests();
        bestTies();
        bestIsLast();
        heads();
        narrows();
        years();
        yearsCaught();
        yearsBuyAndFill();
        seeds();
        acts();
        images();
        statuses();
        extremes();
        if (wrong != 0) {
            System.exit(1);
        }
        System.out.println("all promises are kept");
    }

    // ---- helpers ----

    private static void write(StrengthenFirst x, int s, int sort, long... elements) {
        x.row(s, sort, elements.length);
        for (int i = 0; i < elements.length; i++) {
            x.set(s, i, elements[i]);
        }
    }

    private static int read(StrengthenFirst x, String text) {
        x.row(7, 0, text.length());
        for (int i = 0; i < text.length(); i++) {
            x.set(7, i, text.charAt(i));
        }
        return x.town(7);
    }

    /** The FAULT of a text in a town with 2 STREETS and 1 HOUSE. */
    private static void fault(String text, int want) {
        StrengthenFirst x = new StrengthenFirst();
        x.street(0, 1);
        x.street(1, 2);
        x.house(1, 1, 1, 1, 1);
        due("town(" + text + ")", read(x, text), -6);
        due("fault of " + text, x.fault(), want);
        due("streets after " + text, x.status(0), 2);
        due("houses after " + text, x.status(1), 1);
        due("shakes after " + text, x.status(2), 0);
    }

    /**
     * THE WAY OUT - 1 - 2; HOUSE 0 at 1 shuts STREET 0, HOUSE 1 at 2 has no FRONT; FALLS 7 and 3.
     * The MEANS by STEPS of 0 and 1: none 1403400, (1,0) 690600, (0,1) 1302000, (1,1) 558000.
     */
    private static StrengthenFirst small() {
        StrengthenFirst x = new StrengthenFirst();
        x.street(0, 1);
        x.street(1, 2);
        x.house(1, 5, 10, 20, 30);
        x.house(2, 1, 4, 6, 50);
        x.front(0, 0);
        x.shake(10, 2);
        return x;
    }

    private static int stepSeed(int seed) {
        return seed * 1103515245 + 12345;
    }

    private static int drawOf(int seed, int n) {
        return (seed >>> 16) % n;
    }

    // ---- promises ----

    private static void newObject() {
        promise = 1;
        StrengthenFirst x = new StrengthenFirst();
        int[] want = {0, 0, 0, 0, 0, 0, 0, 1, 0};
        for (int what = 0; what <= 8; what++) {
            due("status(" + what + ")", x.status(what), want[what]);
        }
        for (int what = 11; what <= 17; what++) {
            due("status(" + what + ")", x.status(what), 0);
        }
        due("coin", x.ask(0, 7), 50);
        due("shut", x.ask(1, 7), 5);
        due("daypart", x.ask(2, 7), 4);
        due("fault", x.fault(), NONE);
        due("NONE", StrengthenFirst.NONE, -1);
    }

    private static void shelves() {
        promise = 2;
        StrengthenFirst x = new StrengthenFirst();
        due("row", x.row(0, 0, 0), 1);
        due("row", x.row(7, 3, 120), 1);
        due("row of no shelf, below", x.row(8, 0, -1), -1);
        due("row below, wrong sort", x.row(0, 9, -1), -4);
        due("row of a wrong sort, too long", x.row(0, 4, 121), -6);
        due("row too long", x.row(0, 3, 121), -7);
        due("a refused row leaves the shelf", x.holds(0), 100);
        x.set(7, 119, 5);
        due("a new row is 0", x.row(7, 3, 120), 1);
        due("a new row is 0", x.element(7, 119), 0);
        promise = 3;
        long[] kept = {0x34, 0x1234, 0xFFFFFFFF82341234L, 0x1234567882341234L};
        for (int sort = 0; sort < 4; sort++) {
            x.row(1, sort, 2);
            due("set", x.set(1, 1, 0x1234567882341234L), 1);
            due("lowest bits kept in sort " + sort, x.element(1, 1), kept[sort]);
            x.set(1, 0, -1);
            due("-1 in sort " + sort, x.element(1, 0), -1);
        }
        write(x, 1, 0, 200, 128, 127);
        due("a byte above 127", x.element(1, 0), -56);
        due("a byte 128", x.element(1, 1), -128);
        due("set beyond", x.set(1, 3, 1), -5);
        due("set at -1", x.set(1, -1, 1), -5);
        due("set in nothing", x.set(5, 0, 1), -3);
        x.rule(6, 0, 0);
        due("set in a rule", x.set(6, 0, 1), -2);
        due("set on no shelf", x.set(-1, 0, 1), -1);
        promise = 4;
        write(x, 1, 2, 1, 2, 3, 4, 5);
        due("copy forward in one row", x.copy(1, 1, 0, 1, 4), 1);
        long[] after = {1, 1, 2, 3, 4};
        for (int i = 0; i < 5; i++) {
            due("copied " + i, x.element(1, i), after[i]);
        }
        write(x, 2, 2, 7, 8);
        due("copy to the end", x.copy(1, 2, 3, 0, 2), 1);
        due("copied", x.element(2, 1), 4);
        due("copy of nobody's", x.copy(8, 6, 0, 0, -1), -1);
        due("copy to nobody's", x.copy(5, -1, 0, 0, -1), -1);
        due("copy from a rule to nothing", x.copy(6, 5, 0, 0, -1), -2);
        due("copy from nothing to a rule", x.copy(5, 6, 0, 0, -1), -2);
        due("copy of two sorts", x.copy(1, 7, 0, 0, -1), -2);
        due("copy to nothing", x.copy(1, 5, 0, 0, -1), -3);
        due("copy from nothing", x.copy(5, 1, 0, 0, -1), -3);
        due("copy below", x.copy(1, 2, -1, 0, -1), -4);
        due("copy from below 0", x.copy(1, 2, -1, 0, 1), -5);
        due("copy to below 0", x.copy(1, 2, 0, -1, 1), -5);
        due("copy from beyond", x.copy(1, 2, 4, 0, 2), -5);
        due("copy to beyond", x.copy(1, 2, 0, 1, 2), -5);
        due("copy far beyond", x.copy(1, 2, Integer.MAX_VALUE, 0, Integer.MAX_VALUE), -5);
        due("copy of none at the end", x.copy(1, 2, 5, 2, 0), 1);
        promise = 5;
        int refused = x.status(11) + x.status(12) + x.status(13) + x.status(15);
        due("element", x.element(1, 4), 4);
        due("element beyond", x.element(1, 5), 0);
        due("element at -1", x.element(1, -1), 0);
        due("element of a rule", x.element(6, 0), 0);
        due("element of nothing", x.element(5, 0), 0);
        due("element of nobody", x.element(8, 0), 0);
        due("nothing refused", x.status(11) + x.status(12) + x.status(13) + x.status(15), refused);
    }

    private static void ruleAndHolds() {
        promise = 6;
        StrengthenFirst x = new StrengthenFirst();
        for (int kind = 0; kind < 6; kind++) {
            due("rule", x.rule(kind, kind, 99), 1);
            promise = 7;
            due("holds", x.holds(kind), kind);
            promise = 6;
        }
        due("rule by 0", x.rule(0, 0, 0), 1);
        due("rule by -1", x.rule(0, 0, -1), -6);
        due("rule by 100", x.rule(0, 0, 100), -6);
        due("rule of no shelf", x.rule(8, 0, 100), -1);
        due("rule of no kind", x.rule(0, 7, 100), -1);
        due("rule of no kind", x.rule(0, -2, 100), -1);
        due("told of no shelf", x.rule(0, 6, 100), -1);
        due("told of no shelf", x.rule(0, 6, -1), -1);
        due("told of a rule", x.rule(0, 6, 1), -2);
        due("told of nothing", x.rule(0, 6, 7), -3);
        write(x, 7, 1, 3, 1);
        due("told", x.rule(0, 6, 7), 1);
        due("told of its own shelf", x.rule(7, 6, 7), 1);
        promise = 7;
        due("holds told", x.holds(7), 6);
        promise = 6;
        due("nothing", x.rule(7, NONE, 0), 0);
        due("nothing again", x.rule(7, NONE, 0), 0);
        promise = 7;
        due("holds nothing", x.holds(7), NONE);
        due("holds of nobody", x.holds(-1), NONE);
        due("holds of nobody", x.holds(8), NONE);
        for (int sort = 0; sort < 4; sort++) {
            x.row(7, sort, 1);
            due("holds a row", x.holds(7), 100 + sort);
        }
        due("holds refuses nothing", x.status(11), 5);
    }

    private static void says() {
        promise = 8;
        StrengthenFirst x = new StrengthenFirst();
        for (int kind = 0; kind < 6; kind++) {
            x.rule(kind, kind, 30);
        }
        due("full of none", x.says(1, 1), NONE);
        due("weak of none", x.says(2, 2), NONE);
        x.street(0, 1);
        x.house(1, 5, 1, 1, 30);
        due("full of one", x.says(1, 1), 0);
        due("weak of one", x.says(2, 2), 0);
        x.house(1, 9, 9, 9, 31);
        x.house(1, 2, 5, 5, 29);
        x.front(2, 0);
        due("rule says its a", x.says(0, 0), 30);
        due("saves taken for rule", x.says(4, 0), 30);
        due("full says the first", x.says(1, 1), 1);
        due("street says the first", x.says(3, 3), 2);
        due("street taken for full", x.says(3, 1), 2);
        due("street taken for rule", x.says(3, 0), 30);
        due("weak says the last", x.says(2, 2), 2);
        x.prop(1, true);
        due("prop says the last", x.says(5, 5), 1);
        due("prop taken for weak", x.says(5, 2), 1);
        x.alter(0, 2, 2);
        due("saves counts houses, those with 2 steps too", x.says(4, 4), 2);
        write(x, 6, 3, 1, 1, 1, 77);
        x.rule(7, 6, 6);
        x.row(6, 0, 0);
        due("told counts its row as it was", x.says(7, 6), 4);
        due("told taken for rule", x.says(7, 0), 6);
        due("full taken for street", x.says(1, 3), -2);
        due("weak taken for full", x.says(2, 1), -2);
        due("weak taken for prop", x.says(2, 5), -2);
        due("rule taken for told", x.says(0, 6), -2);
        due("a row", x.says(6, 0), -2);
        x.rule(6, NONE, 0);
        due("nothing", x.says(6, 0), -3);
        due("no shelf", x.says(8, 0), -1);
        due("no kind", x.says(6, 7), -1);
        due("no kind", x.says(6, NONE), -1);
    }

    private static void streetsAndHouses() {
        promise = 9;
        StrengthenFirst x = new StrengthenFirst();
        for (int i = 0; i < 12; i++) {
            due("street", x.street(i % 8, (i + 1) % 8), i);
        }
        due("street with no room", x.street(0, 1), -7);
        due("street of one corner", x.street(3, 3), -6);
        due("street of no corner", x.street(8, 8), -1);
        due("street of no corner", x.street(0, -1), -1);
        promise = 10;
        due("house", x.house(7, 9, 99, 99, 99), 0);
        due("house", x.house(0, 0, 0, 0, 1), 1);
        int[][] off = {{0, 10, 0, 0, 1}, {0, -1, 0, 0, 1}, {0, 0, 100, 0, 1}, {0, 0, -1, 0, 1}, {0, 0, 0, 100, 1},
            {0, 0, 0, -1, 1}, {0, 0, 0, 0, 0}, {0, 0, 0, 0, 100}};
        for (int[] o : off) {
            due("house that may not be", x.house(o[0], o[1], o[2], o[3], o[4]), -6);
        }
        due("house at no corner", x.house(8, 10, 0, 0, 0), -1);
        due("house at no corner", x.house(-1, 0, 0, 0, 1), -1);
        for (int i = 2; i < 10; i++) {
            due("house", x.house(1, 1, 1, 1, 1), i);
        }
        due("house with no room", x.house(1, 1, 1, 1, 1), -7);
        due("wrong house with no room", x.house(1, 1, 1, 1, 0), -6);
        promise = 12;
        int[] told = {7, 9, 99, 99, 99, NONE, NONE, 0, 0};
        for (int what = 0; what < 9; what++) {
            due("houseOf " + what, x.houseOf(0, what), told[what]);
        }
        due("houseOf another what", x.houseOf(0, 9), -5);
        due("houseOf another what", x.houseOf(0, -1), -5);
        due("houseOf no house", x.houseOf(10, 0), -5);
        due("counted", x.status(15), 3);
        promise = 11;
        StrengthenFirst y = new StrengthenFirst();
        write(y, 0, 3, 9, 1, 2, 3, 4, 5, (1L << 32) + 2, 3, 4, 5, 6, 8, 1, 1, 1, 1);
        due("houses", y.houses(0, 1, 10), 2);
        due("a long's lowest 32 bits", y.houseOf(1, 0), 2);
        due("cost", y.houseOf(1, 4), 6);
        due("houses until one that can't be", y.houses(0, 6, 10), 1);
        due("houses none", y.houses(0, 16, 0), 0);
        due("houses below", y.houses(0, 99, -1), -4);
        due("houses beyond", y.houses(0, 13, 4), -5);
        due("houses from below 0", y.houses(0, -1, 5), -5);
        due("houses no multiple", y.houses(0, 1, 9), -6);
        due("houses of nothing", y.houses(1, 0, -1), -3);
        y.rule(1, 0, 0);
        due("houses of a rule", y.houses(1, 0, -1), -2);
        due("houses of no shelf", y.houses(8, 0, -1), -1);
        for (int i = 3; i < 9; i++) {
            y.house(0, 0, 0, 0, 1);
        }
        due("houses until there is no room", y.houses(0, 1, 10), 1);
        due("ten of them", y.status(1), 10);
        due("no room isn't refused there", y.status(17), 0);
    }

    private static void changes() {
        promise = 13;
        StrengthenFirst x = small();
        due("front", x.front(0, 1), 0);
        due("front none", x.front(0, NONE), 1);
        due("front again", x.front(0, 0), NONE);
        due("front of no street", x.front(0, 2), -11);
        due("front of no street", x.front(0, -2), -11);
        due("front of no house", x.front(2, 0), -11);
        due("counted as -1", x.status(11), 3);
        due("front as it was", x.houseOf(0, 5), 0);
        promise = 14;
        due("next", x.next(0, 1), NONE);
        due("next none", x.next(0, NONE), 1);
        due("next itself", x.next(0, 0), -16);
        due("counted as -6", x.status(16), 1);
        due("next of no house", x.next(2, 2), -11);
        due("no next", x.next(0, 2), -11);
        due("no next", x.next(0, -2), -11);
        due("counted as -1", x.status(11), 6);
        x.next(0, 1);
        due("next told", x.houseOf(0, 6), 1);
        promise = 15;
        due("alter day", x.alter(0, 0, 99), 10);
        due("alter night", x.alter(0, 1, 0), 20);
        due("alter steps", x.alter(0, 2, 2), 0);
        due("steps told", x.houseOf(0, 7), 2);
        due("alter day beyond", x.alter(0, 0, 100), -6);
        due("alter night below", x.alter(0, 1, -1), -6);
        due("alter steps beyond", x.alter(0, 2, 3), -6);
        due("alter another", x.alter(0, 3, 0), -6);
        due("alter another", x.alter(0, -1, 0), -6);
        due("alter no house", x.alter(2, 9, 0), -1);
        due("alter again", x.alter(0, 0, 1), 99);
        promise = 16;
        due("prop", x.prop(0, true), 1);
        due("prop as it is", x.prop(0, true), 0);
        due("propped told", x.houseOf(0, 8), 1);
        due("no prop", x.prop(0, false), 1);
        due("no prop as it is", x.prop(0, false), 0);
        due("prop of no house", x.prop(-1, false), -1);
        promise = 17;
        StrengthenFirst y = new StrengthenFirst();
        due("shake", y.shake(0, 0), 0);
        due("shake", y.shake(99, 9), 1);
        int[][] off = {{100, 0}, {-1, 0}, {0, 10}, {0, -1}};
        for (int[] o : off) {
            due("shake that may not be", y.shake(o[0], o[1]), -6);
        }
        due("shake", y.shake(1, 1), 2);
        due("shake", y.shake(1, 1), 3);
        due("shake with no room", y.shake(1, 1), -7);
        due("wrong shake with no room", y.shake(100, 1), -6);
        promise = 18;
        due("coin", y.ask(0, 999), 50);
        due("coin", y.ask(0, 1), 999);
        due("coin 0", y.ask(0, 0), -6);
        due("coin 1000", y.ask(0, 1000), -6);
        due("coin as it was", y.ask(0, 5), 1);
        due("shut", y.ask(1, 10), 5);
        due("shut", y.ask(1, 0), 10);
        due("shut 11", y.ask(1, 11), -6);
        due("shut -1", y.ask(1, -1), -6);
        due("daypart", y.ask(2, 10), 4);
        due("daypart", y.ask(2, 0), 10);
        due("daypart 11", y.ask(2, 11), -6);
        due("another", y.ask(3, 1), -6);
        due("another", y.ask(-1, 1), -6);
    }

    private static void towns() {
        promise = 19;
        StrengthenFirst x = new StrengthenFirst();
        due("a town", read(x, "street 0 1;street 1 002;house 1 5 10 20 30 front 0;house 2 1 4 6 50 front 1 next 0;"
            + "shake 10 2"), 5);
        due("fault", x.fault(), NONE);
        int[] told = {2, 1, 4, 6, 50, 1, 0, 0, 0};
        for (int what = 0; what < 9; what++) {
            due("houseOf " + what, x.houseOf(1, what), told[what]);
        }
        due("front", x.houseOf(0, 5), 0);
        due("next only", read(x, "house 0 0 0 0 1 next 1"), 1);
        due("next", x.houseOf(2, 6), 1);
        due("no front", x.houseOf(2, 5), NONE);
        due("asked", read(x, "coin 7;shut 10;daypart 0;coin 008"), 4);
        due("the last coin stays", x.ask(0, 1), 8);
        due("shut", x.ask(1, 1), 10);
        due("daypart", x.ask(2, 1), 0);
        due("falls", x.falls(0, 0), 7);
        due("nothing", x.town(0), -3);
        x.rule(0, 0, 0);
        due("a rule", x.town(0), -2);
        due("no shelf", x.town(8), -1);
        promise = 20;
        due("a fault", read(x, "coin x"), -6);
        due("its place", x.fault(), 5);
        x.town(0);
        x.town(8);
        due("a town that came to no row leaves it", x.fault(), 5);
        due("a town", read(x, "coin 1"), 1);
        due("none", x.fault(), NONE);
        due("coin stands", x.ask(0, 1), 1);
        read(x, "coin 9;coin x");
        due("nothing of a fault's text stands", x.ask(0, 1), 1);
        promise = 19;
        write(x, 6, 3, (1L << 32) + 'c', 'o', 'i', 'n', ' ', '3');
        due("letters are ints", x.town(6), 1);
        write(x, 6, 2, 256 + 'c', 'o', 'i', 'n', ' ', '3');
        due("an int is no byte", x.town(6), -6);
        due("fault", x.fault(), 0);
    }

    private static void faults() {
        promise = 20;
        fault("", 0);
        fault(" ", 0);
        fault("x", 0);
        fault("s", 1);
        fault("sx", 1);
        fault("shx", 2);
        fault("sha", 3);
        fault("shu", 3);
        fault("stre", 4);
        fault("strext", 4);
        fault("street", 6);
        fault("streets", 6);
        fault("street ", 7);
        fault("street  0", 7);
        fault("street 0", 8);
        fault("street 0;", 8);
        fault("street 0 ", 9);
        fault("street 0 1 ", 10);
        fault("street 0 1;", 11);
        fault("street 0 1;;", 11);
        fault("street 0 1x", 10);
        fault("street 0001 2", 10);
        fault("coin 1234", 8);
        fault("coin 50;coin 51 ", 15);
        fault("house 1 1 1 1", 13);
        fault("house 1 1 1 1 1 ", 16);
        fault("house 1 1 1 1 1 x", 16);
        fault("house 1 1 1 1 1 fr", 18);
        fault("house 1 1 1 1 1 nf", 17);
        fault("house 1 1 1 1 1 front", 21);
        fault("house 1 1 1 1 1 front 1 front 1", 24);
        fault("house 1 1 1 1 1 next 0 ", 22);
        fault("house 1 1 1 1 1 next 0 front 1", 22);
        fault("daypart -1", 8);
        fault("Coin 1", 0);
        fault("shake 1 1;street 0 1;coin 1;", 28);
    }

    private static void faultsOfNumbers() {
        promise = 20;
        fault("street 8 1", 7);
        fault("street 8", 7);
        fault("street 8x", 7);
        fault("street 0 8", 9);
        fault("street 12 12", 7);
        fault("street 1 1", 9);
        fault("street 1 01", 9);
        fault("street 999 1", 7);
        fault("street 9999", 7);
        fault("house 8 1 1 1 1", 6);
        fault("house 1 10 1 1 1", 8);
        fault("house 1 1 100 1 1", 10);
        fault("house 1 1 1 100 1", 12);
        fault("house 1 1 1 1 100", 14);
        fault("house 1 1 1 1 0", 14);
        fault("house 1 1 1 1 1 front 2", 22);
        fault("house 1 1 1 1 1 next 1", 21);
        fault("house 1 1 1 1 1 front 1 next 1", 29);
        fault("street 0 1;house 1 1 1 1 1 front 3", 33);
        fault("house 1 1 1 1 1 front 2;street 0 1", 22);
        fault("shake 100 1", 6);
        fault("shake 1 10", 8);
        fault("coin 0", 5);
        fault("coin 000", 5);
        fault("shut 11", 5);
        fault("daypart 11", 8);
        StrengthenFirst x = new StrengthenFirst();
        due("a street and a house ahead", read(x, "street 0 1;house 1 1 1 1 1 front 0;house 1 1 1 1 1 front 0 next 0"), 3);
    }

    private static void rooms() {
        promise = 20;
        StrengthenFirst x = new StrengthenFirst();
        for (int i = 0; i < 11; i++) {
            x.street(0, 1);
        }
        for (int i = 0; i < 10; i++) {
            x.house(0, 1, 1, 1, 1);
        }
        for (int i = 0; i < 4; i++) {
            x.shake(1, 1);
        }
        int[] places = {11, 11, 0, 4, 0, 0, 4, 3, 0};
        String[] texts = {"street 0 1;street 0 1", "street 0 1;street", "house 1 1 1 1 1", "hous", "house", "housex",
            "shak", "shax", "shake 9x"};
        for (int i = 0; i < texts.length; i++) {
            due("town(" + texts[i] + ")", read(x, texts[i]), -6);
            due("fault of " + texts[i], x.fault(), places[i]);
        }
        due("counted as -6", x.status(16), 9);
        due("not as -7", x.status(17), 0);
        due("one more street", read(x, "street 0 1"), 1);
        due("no more", read(x, "street 0 1"), -6);
        due("its word", x.fault(), 0);
        due("coins have room", read(x, "coin 3"), 1);
    }

    private static void shakes() {
        promise = 21;
        StrengthenFirst x = small();
        due("falls", x.falls(0, 0), 7);
        due("falls", x.falls(1, 0), 3);
        x.prop(0, true);
        due("propped", x.falls(0, 0), 5);
        x.alter(0, 2, 1);
        due("a step", x.falls(0, 0), 1);
        x.alter(0, 2, 2);
        due("0 at least", x.falls(0, 0), 0);
        x.shake(1, 9);
        due("10 at most", x.falls(1, 1), 10);
        x.house(0, 9, 0, 0, 1);
        due("10 at most", x.falls(2, 1), 10);
        x.alter(2, 2, 1);
        due("cut at 10 behind the sum", x.falls(2, 1), 10);
        x.alter(2, 2, 2);
        due("18 less 8", x.falls(2, 1), 10);
        x.prop(2, true);
        due("18 less 10", x.falls(2, 1), 8);
        due("no house", x.falls(3, 0), -1);
        due("no shake", x.falls(0, 2), -1);
        due("no shake", x.falls(0, -1), -1);
        promise = 22;
        due("cut by none", x.cut(0), 0xF8);
        due("cut by 0", x.cut(1), 0xFE);
        due("cut by 1", x.cut(2), 0xF8);
        due("cut by all", x.cut(7), 0xFE);
        due("cut by no house", x.cut(8), -1);
        due("cut by no house", x.cut(-1), -1);
        due("cut by no house", x.cut(Integer.MIN_VALUE), -1);
        x.street(2, 0);
        due("another way round", x.cut(1), 0xF8);
        StrengthenFirst y = new StrengthenFirst();
        due("no streets", y.cut(0), 0xFE);
        for (int i = 7; i > 0; i--) {
            y.street(i, i - 1);
        }
        due("a chain", y.cut(0), 0);
        y.house(5, 0, 0, 0, 1);
        y.front(0, 3);
        due("a chain cut", y.cut(1), 0xF0);
    }

    private static void walls() {
        promise = 21;
        StrengthenFirst x = small();
        x.next(1, 0);
        due("next has no more steps", x.falls(1, 0), 3);
        x.alter(0, 2, 1);
        due("next has more steps", x.falls(1, 0), 4);
        due("the other way it is not", x.falls(0, 0), 3);
        x.alter(0, 2, 2);
        due("two more are 1, too", x.falls(1, 0), 4);
        x.alter(1, 2, 2);
        due("as many", x.falls(1, 0), 0);
        x.alter(1, 2, 1);
        due("1 + 2 - 4 + 1", x.falls(1, 0), 0);
        promise = 27;
        StrengthenFirst y = new StrengthenFirst();
        y.house(0, 0, 0, 0, 3);
        y.house(0, 1, 10, 10, 1);
        y.next(1, 0);
        y.shake(1, 1);
        due("a wall makes worth below 0", y.worth(0), -10000);
        promise = 28;
        y.alter(1, 2, 2);
        due("the only one", y.which(), 0);
        y.alter(0, 2, 2);
        due("none left", y.which(), NONE);
    }

    private static void lostAndMean() {
        StrengthenFirst x = small();
        promise = 23;
        due("lost by day", x.lost(0, 0), 9180);
        due("lost by night", x.lost(0, 1), 17270);
        due("no shake", x.lost(1, 2), -1);
        due("no hour", x.lost(0, 2), -6);
        due("no hour", x.lost(0, -1), -6);
        promise = 24;
        due("dead by day", x.dead(0, 0), 8200);
        due("dead by night", x.dead(0, 1), 15800);
        due("no shake", x.dead(-1, 2), -1);
        due("no hour", x.dead(0, 2), -6);
        promise = 25;
        due("shuts the way out", x.shuts(0, 0), 0);
        due("shuts 1", x.shuts(1, 0), 70);
        due("shuts 2", x.shuts(2, 0), 70);
        due("shuts what has no way", x.shuts(3, 0), 100);
        due("no corner", x.shuts(8, 0), -1);
        due("no shake", x.shuts(0, 1), -1);
        promise = 26;
        due("mean", x.mean(), 1403400);
        x.alter(0, 2, 1);
        due("mean", x.mean(), 690600);
        x.alter(1, 2, 1);
        due("mean", x.mean(), 558000);
        x.alter(0, 2, 0);
        due("mean", x.mean(), 1302000);
        x.ask(2, 10);
        due("mean by day alone", x.mean(), 840000);
        x.ask(2, 0);
        due("mean by night alone", x.mean(), 1610000);
        x.ask(1, 0);
        due("mean of dead ones alone", x.mean(), 1400000);
        x.shake(0, 9);
        due("a shake that never comes", x.mean(), 1400000);
        x.alter(1, 2, 0);
        x.ask(1, 10);
        x.shake(1, 9);
        due("both fall for certain and 0 is out of reach", x.lost(2, 1), 26000);
        due("two shakes", x.mean(), 10 * 10 * (15800 + 49 * 60) + 10 * 26000);
    }

    private static void edgesOfOdds() {
        promise = 25;
        StrengthenFirst x = new StrengthenFirst();
        x.shake(5, 5);
        due("of no houses WHOLE is 1", x.shuts(1, 0), 1);
        due("the way out", x.shuts(0, 0), 0);
        promise = 23;
        due("lost of no houses", x.lost(0, 0), 0);
        x.house(3, 0, 7, 9, 1);
        due("5 of 10 dead, 5 caught", x.lost(0, 0), 5 * 70 + 5 * 35);
        promise = 26;
        due("mean", x.mean(), 5 * (4 * 525 + 6 * (5 * 90 + 5 * 45)));
        promise = 23;
        StrengthenFirst y = new StrengthenFirst();
        for (int i = 0; i < 10; i++) {
            y.house(0, 9, 99, 99, 99);
            y.house(0, 9, 99, 99, 99);
        }
        for (int i = 0; i < 4; i++) {
            y.shake(99, 9);
        }
        long worst = 10000000000L * 9900;
        due("the worst", y.lost(3, 1), worst);
        promise = 26;
        due("the worst mean", y.mean(), worst * 10 * 99 * 4);
        promise = 30;
        y.ask(0, 1);
        y.rule(0, 0, 0);
        due("the worst plan", y.plan(0, 20), worst * 10 * 99 * 4 * 20);
        promise = 25;
        y.street(0, 1);
        y.street(0, 1);
        y.front(0, 0);
        y.front(1, 0);
        y.front(2, 1);
        y.alter(0, 2, 2);
        y.alter(1, 2, 2);
        y.alter(2, 2, 2);
        y.prop(0, true);
        y.prop(1, true);
        y.prop(2, true);
        due("one of the first two, and the third", y.shuts(1, 0), 10000000L * (1000 - 40) * 8 / 10);
        promise = 38;
        due("narrow by either house", y.narrow(0), 0);
    }

    private static void worthAndWhich() {
        promise = 27;
        StrengthenFirst x = small();
        due("worth of 0", x.worth(0), 1403400 - 690600);
        due("worth of 1", x.worth(1), 1403400 - 1302000);
        due("no house", x.worth(2), -1000001);
        x.alter(0, 2, 2);
        due("2 steps", x.worth(0), -1000006);
        due("counted as -6", x.status(16), 1);
        due("counted as -1", x.status(11), 1);
        promise = 28;
        due("the other", x.which(), 1);
        x.alter(0, 2, 0);
        due("most by cost", x.which(), 0);
        StrengthenFirst y = new StrengthenFirst();
        due("none", y.which(), NONE);
        y.house(0, 4, 0, 10, 3);
        y.house(0, 4, 0, 10, 2);
        y.house(0, 4, 0, 20, 4);
        y.shake(1, 0);
        due("of several the first", y.which(), 1);
        y.ask(2, 10);
        due("all of worth 0", y.which(), 0);
        StrengthenFirst z = new StrengthenFirst();
        z.house(0, 1, 0, 0, 99);
        z.house(0, 0, 0, 0, 60);
        z.house(0, 1, 1, 0, 1);
        z.alter(2, 2, 2);
        z.house(0, 1, 0, 1, 99);
        z.house(0, 4, 0, 1, 98);
        z.ask(2, 9);
        z.shake(0, 0);
        due("quotients cut alike", z.which(), 0);
    }

    private static void orders() {
        promise = 29;
        StrengthenFirst x = new StrengthenFirst();
        x.street(0, 1);
        x.street(1, 2);
        x.house(1, 3, 10, 0, 5);
        x.house(1, 6, 0, 9, 50);
        x.house(2, 6, 10, 10, 20);
        x.house(2, 9, 99, 99, 7);
        x.house(2, 7, 10, 10, 9);
        x.front(0, 1);
        x.front(2, 0);
        x.alter(3, 2, 2);
        x.alter(4, 2, 1);
        x.prop(1, true);
        orderIs(x, 0, 0, "0124");
        orderIs(x, 1, 0, "2410");
        orderIs(x, 2, 0, "1204");
        orderIs(x, 3, 0, "2041");
        orderIs(x, 5, 0, "2041");
        write(x, 7, 2, 4, 3, -1, 99, 4, 1, 4);
        x.rule(0, 6, 7);
        x.set(7, 0, 0);
        orderOf(x, 0, "4102");
        write(x, 7, 3, (1L << 32) + 2);
        x.rule(0, 6, 7);
        orderOf(x, 0, "2014");
        orderIs(x, 4, 0, "0124");
        x.shake(1, 5);
        // each alone, FALLS 8 10 10 5: a STEP makes 4 less (1: 9 propped, 4 less; 2: 11 to 7, 3 less; 4: 8 to 4)
        x.ask(1, 0);
        orderIs(x, 4, 99, "4210");
        orderIs(x, 4, 20, "4201");
        orderIs(x, 4, 8, "0124");
        due("no place", x.order(0, 4), -5);
        due("no place", x.order(0, -1), -5);
        x.rule(6, NONE, 0);
        due("nothing", x.order(6, -1), -3);
        due("a row", x.order(7, -1), -2);
        due("no shelf", x.order(8, -1), -1);
        savesGoesOnWithItsSteps();
    }

    /** The wall between makes the second STEP worth another than at first. */
    private static void savesGoesOnWithItsSteps() {
        StrengthenFirst y = new StrengthenFirst();
        y.house(0, 9, 0, 50, 1);
        y.house(0, 4, 0, 20, 1);
        y.house(0, 4, 0, 19, 1);
        y.house(0, 0, 0, 99, 1);
        y.next(3, 1);
        y.shake(1, 0);
        // 0: 4 tenths of 50; 2: 4 of 19; 1: 4 of 20, but 1 of 99 more for 3's wall: below 0, till 3 has its STEP
        orderIs(y, 4, 99, "0231");
        StrengthenFirst z = new StrengthenFirst();
        z.house(0, 4, 0, 10, 1);
        z.house(0, 4, 0, 20, 1);
        z.house(0, 1, 0, 99, 1);
        z.next(2, 1);
        orderIs(z, 4, 99, "012");
        z.shake(1, 0);
        // 1's STEP is worth 80, less 99 for 2's wall; when 2 has its own, the wall is no matter: 80 is above 0's 40
        orderIs(z, 4, 99, "210");
        z.alter(2, 2, 2);
        z.alter(0, 1, 20);
        orderIs(z, 4, 99, "01");
    }

    private static void orderIs(StrengthenFirst x, int kind, int a, String want) {
        x.rule(0, kind, a);
        orderOf(x, 0, want);
    }

    private static void orderOf(StrengthenFirst x, int s, String want) {
        for (int i = 0; i < want.length(); i++) {
            due("place " + i + " of the order of kind " + x.holds(s), x.order(s, i), want.charAt(i) - '0');
        }
        due("behind the order", x.order(s, want.length()), -5);
    }

    private static void plans() {
        StrengthenFirst x = small();
        x.rule(0, 0, 0);
        promise = 30;
        due("one year", x.plan(0, 1), 690600);
        due("two years", x.plan(0, 2), 1248600);
        due("three years", x.plan(0, 3), 1806600);
        due("a year of none", x.plan(0, 0), -6);
        due("21 years", x.plan(0, 21), -6);
        due("nothing", x.plan(1, 0), -3);
        x.row(2, 0, 0);
        due("a row", x.plan(2, 0), -2);
        due("no shelf", x.plan(8, 0), -1);
        due("all as it was", x.status(3) + x.status(4) + x.status(5), 0);
        promise = 31;
        due("steps of one year", x.steps(0, 1), 1);
        due("steps of two", x.steps(0, 2), 2);
        due("each gets one in all", x.steps(0, 20), 2);
        due("21 years", x.steps(0, 21), -6);
        due("nothing", x.steps(1, 0), -3);
        due("a row", x.steps(2, 0), -2);
        due("no shelf", x.steps(-1, 0), -1);
        x.ask(0, 80);
        due("both at once", x.steps(0, 1), 2);
        x.ask(0, 29);
        due("too dear", x.steps(0, 1), 0);
        due("what is left stays", x.steps(0, 2), 1);
        x.ask(0, 30);
        due("its cost just", x.steps(0, 1), 1);
        promise = 30;
        x.prop(0, true);
        x.ask(0, 1);
        due("props stay", x.plan(0, 2), 2 * x.mean());
    }

    private static void judges() {
        promise = 32;
        StrengthenFirst x = small();
        write(x, 0, 1, 1, 0);
        due("one year", x.judge(0, 1), 1302000);
        due("two years", x.judge(0, 2), 1302000 + 558000);
        write(x, 0, 3, (1L << 32));
        due("as ints", x.judge(0, 2), 690600 * 2);
        x.row(0, 0, 0);
        due("an empty row", x.judge(0, 2), 1403400 * 2);
        write(x, 0, 0, 1, 1);
        due("two alike", x.judge(0, 2), -6);
        write(x, 0, 0, 0, 2);
        due("no house", x.judge(0, 2), -6);
        write(x, 0, 0, -1);
        due("no house", x.judge(0, 2), -6);
        write(x, 0, 0, 0);
        due("no years", x.judge(0, 0), -6);
        due("too many years", x.judge(0, 21), -6);
        x.rule(1, 0, 0);
        due("a rule", x.judge(1, 0), -2);
        due("nothing", x.judge(2, 0), -3);
        due("no shelf", x.judge(8, 0), -1);
        x.alter(0, 2, 2);
        x.ask(0, 1);
        x.house(1, 0, 0, 0, 1);
        long before = x.mean();
        x.alter(2, 2, 1);
        long after = x.mean();
        x.alter(2, 2, 0);
        write(x, 0, 0, 0, 2, 1);
        due("one with 2 steps is passed over, for nothing, though it is dear", x.judge(0, 1), after);
        x.alter(1, 0, 5);
        x.alter(2, 0, 5);
        x.shake(9, 9);
        x.alter(2, 2, 1);
        after = x.mean();
        x.alter(2, 2, 0);
        due("as with people in it", x.judge(0, 1), after);
        due("that is another mean", x.mean() == after ? 1 : 0, 0);
        due("and none is changed", before > 0 ? x.status(3) : 0, 2);
    }

    private static void bests() {
        StrengthenFirst x = small();
        promise = 33;
        due("best of one", x.best(1), 690600);
        due("best of two", x.best(2), 1248600);
        due("no years", x.best(0), -6);
        due("21 years", x.best(21), -6);
        promise = 34;
        due("first", x.first(2, 0), 0);
        due("second", x.first(2, 1), 1);
        due("no third, no years", x.first(0, 2), -5);
        due("below", x.first(2, -1), -5);
        due("no years", x.first(0, 0), -6);
        promise = 35;
        write(x, 0, 0, 1);
        x.rule(1, 6, 0);
        x.rule(2, 0, 0);
        due("gap", x.gap(1, 2), 1860000 - 1248600);
        due("no gap", x.gap(2, 2), 0);
        due("no years", x.gap(1, 0), -1000006);
        due("nothing", x.gap(3, 0), -1000003);
        due("a row", x.gap(0, 0), -1000002);
        due("no shelf", x.gap(8, 0), -1000001);
        due("counted", x.status(16), 4);
        promise = 36;
        due("bound", x.bound(2), 2 * 558000);
        due("bound", x.bound(20), 20 * 558000);
        due("no years", x.bound(0), -6);
        due("21 years", x.bound(21), -6);
        x.alter(0, 2, 2);
        due("one that has 2 keeps them", x.bound(1), 0);
        x.alter(0, 2, 1);
        x.ask(0, 80);
        promise = 35;
        due("second steps are ahead of the best", x.gap(2, 1), -558000);
        promise = 33;
        due("of those with 0 steps alone", x.best(1), 558000);
        promise = 34;
        due("the only one", x.first(1, 0), 1);
        due("no second", x.first(1, 1), -5);
        promise = 33;
        for (int i = 0; i < 4; i++) {
            x.house(0, 0, 0, 0, 1);
        }
        due("five may be, WHOLE is 10000 times as much", x.best(1), 5580000000L);
        x.house(0, 0, 0, 0, 1);
        due("six may not", x.best(1), -6);
        promise = 34;
        due("six may not", x.first(1, 5), -6);
        due("beyond is told first", x.first(1, 6), -5);
        promise = 35;
        due("six may not", x.gap(2, 1), -1000006);
        due("nothing is told first", x.gap(3, 1), -1000003);
    }

    private static void bestTies() {
        promise = 34;
        StrengthenFirst x = new StrengthenFirst();
        x.house(0, 1, 0, 1, 50);
        x.house(0, 4, 0, 0, 50);
        x.house(0, 4, 0, 0, 50);
        x.house(0, 4, 0, 9, 50);
        x.house(0, 4, 0, 9, 50);
        x.shake(9, 0);
        String[] rows = {"30124", "34012", "34012"};
        for (int n = 1; n <= 3; n++) {
            for (int i = 0; i < 5; i++) {
                due("place " + i + " of " + n + " years", x.first(n, i), rows[n - 1].charAt(i) - '0');
            }
        }
    }

    /** The last of all 120 rows is the best. */
    private static void bestIsLast() {
        promise = 34;
        StrengthenFirst x = new StrengthenFirst();
        for (int i = 0; i < 5; i++) {
            x.house(0, 4, 0, 10 * i, 50);
        }
        x.shake(9, 0);
        for (int i = 0; i < 5; i++) {
            due("place " + i + " of five years", x.first(5, i), 4 - i);
        }
    }

    private static void heads() {
        promise = 37;
        StrengthenFirst x = small();
        due("no rule, no years", x.head(0), -5);
        write(x, 1, 0, 1);
        due("no rule", x.head(1), -5);
        x.rule(2, 6, 1);
        due("the only one", x.head(1), 2);
        x.rule(5, 0, 0);
        x.rule(4, 1, 0);
        due("of several the first", x.head(1), 4);
        due("no years", x.head(0), -6);
        due("21 years", x.head(21), -6);
        x.ask(0, 80);
        due("all alike", x.head(3), 2);
    }

    private static void narrows() {
        promise = 38;
        StrengthenFirst x = new StrengthenFirst();
        due("no shake", x.narrow(0), -11);
        x.shake(1, 0);
        due("no streets", x.narrow(0), NONE);
        due("counted as -1", x.status(11), 1);
        x.street(0, 1);
        x.street(0, 1);
        due("none is shut", x.narrow(0), 0);
        x.house(0, 5, 0, 0, 1);
        x.house(0, 4, 0, 0, 1);
        x.house(0, 4, 0, 0, 1);
        x.front(0, 0);
        x.front(1, 1);
        due("50 of 100", x.narrow(0), 0);
        x.front(2, 1);
        due("64 of 100", x.narrow(0), 1);
        x.alter(2, 2, 1);
        due("40 of 100", x.narrow(0), 0);
        due("no shake", x.narrow(1), -11);
        due("no shake", x.narrow(-1), -11);
    }

    /** All fall for certain, by day: those GONE are known, and so are the draws. */
    private static void years() {
        promise = 39;
        int seed = 1;
        while (drawOf(stepSeed(seed), 1000) >= 99) {
            seed++;
        }
        StrengthenFirst x = new StrengthenFirst();
        x.house(0, 9, 7, 0, 99);
        x.house(0, 9, 98, 0, 99);
        x.shake(99, 9);
        x.ask(2, 10);
        x.ask(0, 1);
        x.rule(0, 0, 0);
        x.alter(1, 2, 2);
        x.prop(0, true);
        x.seed(seed);
        due("gone", x.years(0, 1), 7 + 98);
        int after = seed;
        for (int i = 0; i < 4; i++) {
            after = stepSeed(after);
        }
        due("draws", x.status(7), after);
        due("gone in all", x.status(6), 105);
        due("the year", x.status(5), 1);
        due("purse", x.status(4), 1);
        due("props go", x.houseOf(0, 8), 0);
        due("no step, no more people", x.houseOf(0, 2), 7);
        due("99 at most", x.houseOf(1, 2), 99);
        due("2 more by night", x.houseOf(1, 3), 2);
        int quiet = 1;
        while (drawOf(stepSeed(quiet), 1000) < 99) {
            quiet++;
        }
        x.seed(quiet);
        due("a year without", x.years(0, 1), 0);
        due("one draw", x.status(7), stepSeed(quiet));
        due("gone in all", x.status(6), 105);
        due("by night", x.houseOf(1, 3), 4);
        int edge = 1;
        while (drawOf(stepSeed(edge), 1000) != 99) {
            edge++;
        }
        x.seed(edge);
        due("99 isn't below 99", x.years(0, 1), 0);
        due("no years", x.years(0, 0), -6);
        due("21 years", x.years(0, 21), -6);
        due("nothing", x.years(1, 0), -3);
        x.row(1, 0, 0);
        due("a row", x.years(1, 0), -2);
        due("no shelf", x.years(8, 0), -1);
        due("the year stays", x.status(5), 3);
    }

    /** Nobody falls, one is cut off for ever: 7 times 5 by 10 is 3 in each SHAKE, not 7 in two. */
    private static void yearsCaught() {
        promise = 39;
        int seed = 0;
        int second;
        do {
            seed++;
            int first = stepSeed(seed);
            second = drawOf(first, 1000) < 99 ? stepSeed(stepSeed(stepSeed(first))) : 0;
        } while (second == 0 || drawOf(second, 1000) >= 99);
        StrengthenFirst x = new StrengthenFirst();
        x.house(3, 0, 7, 7, 1);
        x.shake(99, 0);
        x.shake(99, 0);
        x.rule(0, 0, 0);
        x.seed(seed);
        due("cut for each shake by itself", x.years(0, 1), 6);
        due("gone in all", x.status(6), 6);
    }

    private static void yearsBuyAndFill() {
        promise = 39;
        StrengthenFirst x = new StrengthenFirst();
        x.house(0, 1, 10, 20, 30);
        x.house(0, 5, 1, 2, 40);
        x.rule(0, 2, 0);
        due("two years", x.years(0, 2), 0);
        // year 1: 50 buys 1; year 2: order 0, 1 (1 both): 60 buys 0
        due("steps of 0", x.houseOf(0, 7), 1);
        due("steps of 1", x.houseOf(1, 7), 1);
        due("purse", x.status(4), 30);
        due("day of 0", x.houseOf(0, 2), 11);
        due("night of 1", x.houseOf(1, 3), 4);
        due("the year", x.status(5), 2);
        due("twenty years", x.years(0, 20), 0);
        due("steps in all", x.status(3), 4);
        due("purse", x.status(4), 30 + 1000 - 70);
        promise = 30;
        StrengthenFirst y = small();
        y.rule(0, 0, 0);
        y.ask(0, 29);
        y.years(0, 1);
        due("the purse is there in a plan", y.steps(0, 1), 1);
        promise = 33;
        due("and in the best", y.best(1), 690600);
    }

    private static void seeds() {
        promise = 40;
        StrengthenFirst x = new StrengthenFirst();
        due("seed at first", x.seed(-7), 1);
        due("seed", x.seed(Integer.MIN_VALUE), -7);
        due("seed told", x.status(7), Integer.MIN_VALUE);
    }

    private static void acts() {
        StrengthenFirst x = new StrengthenFirst();
        for (int kind = 0; kind < 6; kind++) {
            x.rule(kind, kind, 10 + kind);
        }
        write(x, 7, 0, 0);
        x.rule(6, 6, 7);
        // orders: x + m; FULL: + k; STREET: of x + 1
        int[] orders = {100, 100 + 1 + 11, 102, 101 + 3 + 13, 104, 105, 106};
        int[] costs = {200, 2 * 112, 3 * 2 * 102, 2 * 117, 2 * 104, -3 * 2 * 105, 2 * (100 - 7 + 6)};
        int[] saves = {200 ^ 90, 224 ^ 101, 612 ^ 90, (234 ^ 104) - 3, 208 ^ 90 ^ 5, -630 ^ 90, (198 ^ 99) * 2};
        String[] traces = {"12 11 10 10", "12 11 20 10 20 10", "12 40 11 10 10", "31 12 11 30 20 10 30 20 10",
            "60 12 11 10 10", "12 50 40 11 10 10", "70 12 71 11 10 10"};
        for (int s = 0; s < 7; s++) {
            promise = 41;
            due("orders of " + s, x.act(s, 0, 100), orders[s]);
            due("costs of " + s, x.act(s, 1, 100), costs[s]);
            due("saves of " + s, x.act(s, 2, 100), saves[s]);
            promise = 42;
            String[] bodies = traces[s].split(" ");
            for (int i = 0; i < bodies.length; i++) {
                due("trace " + i + " of " + s, x.trace(i), Integer.parseInt(bodies[i]));
            }
            due("behind the trace", x.trace(bodies.length), NONE);
            due("ahead of it", x.trace(-1), NONE);
            promise = 45;
            due("bodies", x.status(8), bodies.length);
        }
        promise = 41;
        due("wraps", x.act(1, 0, Integer.MAX_VALUE), Integer.MIN_VALUE + 11);
        due("no such act", x.act(1, 3, 5), 0);
        promise = 42;
        due("no trace", x.trace(0), NONE);
        due("no bodies", x.status(8), 0);
        x.act(1, 0, 5);
        due("a trace", x.trace(0), 20);
        promise = 41;
        due("a row", x.act(7, 0, 5), 0);
        promise = 42;
        due("no trace", x.trace(0), NONE);
        promise = 41;
        x.rule(7, NONE, 0);
        due("nothing", x.act(7, 0, 5), 0);
        due("no shelf", x.act(8, 0, 5), 0);
        due("no act", x.act(0, -1, 5), 0);
        due("nothing refused", x.status(11) + x.status(12) + x.status(13) + x.status(16), 0);
        x.rule(5, 3, 99);
        due("m is its shelf, k its a", x.act(5, 0, 1), 1 + 1 + 5 + 99);
    }

    private static void images() {
        promise = 44;
        StrengthenFirst x = small();
        due("no image", x.restore(), -6);
        x.rule(0, 2, 0);
        x.years(0, 3);
        promise = 43;
        due("image", x.image(), 3);
        long mean = x.mean();
        int[] kept = new int[8];
        for (int what = 0; what < 8; what++) {
            kept[what] = x.status(what);
        }
        x.street(3, 4);
        x.house(0, 0, 0, 0, 1);
        x.shake(3, 3);
        x.alter(1, 2, 2);
        x.alter(0, 0, 50);
        x.front(1, 2);
        x.next(0, 1);
        x.prop(1, true);
        x.ask(0, 9);
        x.ask(1, 9);
        x.ask(2, 9);
        x.seed(99);
        x.years(0, 4);
        x.act(0, 1, 1);
        read(x, "coin x");
        x.rule(1, 0, 3);
        promise = 44;
        due("restore", x.restore(), 3);
        for (int what = 0; what < 8; what++) {
            due("status " + what, x.status(what), kept[what]);
        }
        due("mean", x.mean(), mean);
        due("front", x.houseOf(1, 5), NONE);
        due("next", x.houseOf(0, 6), NONE);
        due("propped", x.houseOf(1, 8), 0);
        due("coin", x.ask(0, 8), 50);
        due("shut", x.ask(1, 8), 5);
        due("daypart", x.ask(2, 8), 4);
        due("shelves stay", x.holds(1), 0);
        due("refusals stay", x.status(16), 2);
        due("the fault stays", x.fault(), 5);
        due("the trace stays", x.status(8), 3);
        due("restore again", x.restore(), 3);
        due("coin again", x.ask(0, 8), 50);
        promise = 43;
        due("a new image", x.image(), 3);
        x.ask(0, 7);
        promise = 44;
        due("restore the new one", x.restore(), 3);
        due("coin of it", x.ask(0, 7), 8);
    }

    private static void statuses() {
        promise = 45;
        StrengthenFirst x = small();
        due("streets", x.status(0), 2);
        due("houses", x.status(1), 2);
        due("shakes", x.status(2), 1);
        x.alter(0, 2, 2);
        x.alter(1, 2, 1);
        due("steps of all", x.status(3), 3);
        x.street(9, 0);
        x.rule(0, 0, 0);
        x.set(0, 0, 0);
        x.set(0, 0, 0);
        x.set(1, 0, 0);
        x.row(0, 0, -1);
        x.houseOf(9, 9);
        x.ask(9, 9);
        x.row(0, 0, 121);
        int[] want = {1, 2, 1, 1, 1, 1, 1};
        for (int i = 0; i < 7; i++) {
            due("refusals -" + (i + 1), x.status(11 + i), want[i]);
        }
        due("another", x.status(9), NONE);
        due("another", x.status(10), NONE);
        due("another", x.status(18), NONE);
        due("another", x.status(-1), NONE);
        due("another", x.status(Integer.MIN_VALUE), NONE);
        due("another", x.status(Integer.MAX_VALUE), NONE);
    }

    private static void extremes() {
        promise = 0;
        int[] far = {Integer.MIN_VALUE, -2, -1, 0, 1, 9, 10, 31, 32, 120, Integer.MAX_VALUE};
        StrengthenFirst x = small();
        x.row(0, 2, 3);
        x.rule(1, 4, 50);
        for (int a : far) {
            for (int b : far) {
                x.set(a, b, Long.MIN_VALUE);
                x.element(a, b);
                x.says(a, b);
                x.houseOf(a, b);
                x.falls(a, b);
                x.lost(a, b);
                x.dead(a, b);
                x.shuts(a, b);
                x.order(a, b);
                x.plan(a, b);
                x.steps(a, b);
                x.judge(a, b);
                x.first(a, b);
                x.gap(a, b);
                x.years(a, b);
                x.act(1, a, b);
                x.copy(0, 0, a, b, a);
                x.copy(0, 0, a, b, b);
                x.houses(0, a, b);
                x.alter(a, b, a);
                x.shake(a, b);
            }
            x.cut(a);
            x.worth(a);
            x.best(a);
            x.bound(a);
            x.head(a);
            x.narrow(a);
            x.trace(a);
            x.status(a);
            x.town(a);
        }
    }
}
