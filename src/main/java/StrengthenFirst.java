import java.util.Arrays;

/** Which house to strengthen first: what is lost in shakes, plans by orders over years, years by draws. */
public final class StrengthenFirst {
    public static final int NONE = -1;

    private static final int CORNERS = 8;
    private static final int STREETS_MOST = 12;
    private static final int HOUSES_MOST = 10;
    private static final int SHAKES_MOST = 4;
    private static final int STEPS_MOST = 2;
    private static final int PEOPLE_MOST = 99;
    private static final int YEARS_MOST = 20;
    private static final int SHELVES = 8;
    private static final int ELEMENTS_MOST = 120;
    private static final int ROW = 100;
    private static final int SETS = 1 << HOUSES_MOST;
    private static final int BEST_MOST = 5;
    private static final int ROWS_OF_BEST = 120;

    private static final int RULE = 0;
    private static final int FULL = 1;
    private static final int WEAK = 2;
    private static final int STREET = 3;
    private static final int SAVES = 4;
    private static final int PROP = 5;
    private static final int TOLD = 6;
    private static final int[] ABOVE = {NONE, RULE, RULE, FULL, RULE, WEAK, RULE};

    private static final int NOBODY = 1;
    private static final int OTHER = 2;
    private static final int NOTHING = 3;
    private static final int BELOW = 4;
    private static final int BEYOND = 5;
    private static final int WRONG = 6;
    private static final int ROOM = 7;

    private final Town town = new Town();
    private final Town picture = new Town();
    private final Shelf[] shelves = new Shelf[SHELVES];
    private final Odds odds = new Odds(town);
    private final Orders orders = new Orders(town, odds);
    private final Plans plans = new Plans(town, odds, orders);
    private final Reader reader = new Reader(town);
    private final Acts acts = new Acts();
    private final int[] refused = new int[ROOM + 1];
    private final int[] places = new int[HOUSES_MOST];
    private boolean pictured = false;
    private int latestFault = NONE;

    public StrengthenFirst() {
        for (int s = 0; s < SHELVES; s++) {
            shelves[s] = new Shelf();
        }
    }

    // ---- shelves ----

    public int row(int s, int sort, int n) {
        if (!isShelf(s)) {
            return refuse(NOBODY);
        }
        if (n < 0) {
            return refuse(BELOW);
        }
        if (sort < 0 || sort > 3) {
            return refuse(WRONG);
        }
        if (n > ELEMENTS_MOST) {
            return refuse(ROOM);
        }
        shelves[s].holdRow(sort, n);
        return 1;
    }

    public int set(int s, int i, long v) {
        int no = lacksRow(s);
        if (no != 0) {
            return refuse(no);
        }
        if (!shelves[s].has(i)) {
            return refuse(BEYOND);
        }
        shelves[s].put(i, v);
        return 1;
    }

    public int copy(int p, int q, int i, int j, int n) {
        if (!isShelf(p) || !isShelf(q)) {
            return refuse(NOBODY);
        }
        Shelf from = shelves[p];
        Shelf to = shelves[q];
        if (from.isRule() || to.isRule() || from.isRow() && to.isRow() && from.held != to.held) {
            return refuse(OTHER);
        }
        if (!from.isRow() || !to.isRow()) {
            return refuse(NOTHING);
        }
        if (n < 0) {
            return refuse(BELOW);
        }
        if (!from.hasRange(i, n) || !to.hasRange(j, n)) {
            return refuse(BEYOND);
        }
        System.arraycopy(from.elements, i, to.elements, j, n);
        return 1;
    }

    public long element(int s, int i) {
        if (!isShelf(s) || !shelves[s].isRow() || !shelves[s].has(i)) {
            return 0L;
        }
        return shelves[s].elements[i];
    }

    public int rule(int s, int kind, int a) {
        if (!isShelf(s) || kind != NONE && !isKind(kind)) {
            return refuse(NOBODY);
        }
        if (kind == NONE) {
            shelves[s].empty();
            return 0;
        }
        if (kind == TOLD) {
            return ruleTold(s, a);
        }
        if (a < 0 || a > 99) {
            return refuse(WRONG);
        }
        shelves[s].holdRule(kind, a);
        return 1;
    }

    private int ruleTold(int s, int a) {
        int no = lacksRow(a);
        if (no != 0) {
            return refuse(no);
        }
        shelves[s].holdTold(shelves[a], a);
        return 1;
    }

    public int holds(int s) {
        return isShelf(s) ? shelves[s].held : NONE;
    }

    public int says(int s, int kind) {
        if (!isShelf(s) || !isKind(kind)) {
            return refuse(NOBODY);
        }
        Shelf rule = shelves[s];
        if (rule.isRow() || rule.isRule() && !isUnder(rule.held, kind)) {
            return refuse(OTHER);
        }
        if (!rule.isRule()) {
            return refuse(NOTHING);
        }
        switch (kind) {
            case FULL:
            case STREET:
                return orders.arrange(rule, places) > 0 ? places[0] : NONE;
            case WEAK:
            case PROP:
                return lastPlace(orders.arrange(rule, places));
            case SAVES:
                return town.countUpToCost(rule.a);
            case TOLD:
                return rule.size;
            default:
                return rule.a;
        }
    }

    private int lastPlace(int count) {
        return count > 0 && count <= HOUSES_MOST ? places[count - 1] : NONE;
    }

    // ---- the town ----

    public int street(int a, int b) {
        if (!isCorner(a) || !isCorner(b)) {
            return refuse(NOBODY);
        }
        if (a == b) {
            return refuse(WRONG);
        }
        int number = town.addStreet(a, b);
        return number == NONE ? refuse(ROOM) : number;
    }

    public int house(int corner, int weak, int day, int night, int cost) {
        if (!isCorner(corner)) {
            return refuse(NOBODY);
        }
        if (!canBeHouse(weak, day, night, cost)) {
            return refuse(WRONG);
        }
        int number = town.addHouse(corner, weak, day, night, cost);
        return number == NONE ? refuse(ROOM) : number;
    }

    public int houses(int s, int i, int n) {
        int no = lacksRow(s);
        if (no != 0) {
            return refuse(no);
        }
        if (n < 0) {
            return refuse(BELOW);
        }
        Shelf row = shelves[s];
        if (!row.hasRange(i, n)) {
            return refuse(BEYOND);
        }
        if (n % 5 != 0) {
            return refuse(WRONG);
        }
        int came = 0;
        for (int at = i; at < i + n; at += 5) {
            if (!addHouseOf(row, at)) {
                break;
            }
            came++;
        }
        return came;
    }

    private boolean addHouseOf(Shelf row, int at) {
        int corner = row.asInt(at);
        int weak = row.asInt(at + 1);
        int day = row.asInt(at + 2);
        int night = row.asInt(at + 3);
        int cost = row.asInt(at + 4);
        if (!isCorner(corner) || !canBeHouse(weak, day, night, cost)) {
            return false;
        }
        return town.addHouse(corner, weak, day, night, cost) != NONE;
    }

    public int houseOf(int house, int what) {
        if (!town.isHouse(house)) {
            return refuse(BEYOND);
        }
        House told = town.house[house];
        switch (what) {
            case 0:
                return told.corner;
            case 1:
                return told.weak;
            case 2:
                return told.day;
            case 3:
                return told.night;
            case 4:
                return told.cost;
            case 5:
                return told.front;
            case 6:
                return told.next;
            case 7:
                return town.steps[house];
            case 8:
                return told.propped ? 1 : 0;
            default:
                return refuse(BEYOND);
        }
    }

    public int front(int house, int street) {
        if (!town.isHouse(house) || street != NONE && !town.isStreet(street)) {
            return refuseBelowTen(NOBODY);
        }
        int was = town.house[house].front;
        town.house[house].front = street;
        return was;
    }

    public int next(int house, int other) {
        if (!town.isHouse(house) || other != NONE && !town.isHouse(other)) {
            return refuseBelowTen(NOBODY);
        }
        if (other == house) {
            return refuseBelowTen(WRONG);
        }
        int was = town.house[house].next;
        town.house[house].next = other;
        return was;
    }

    public int alter(int house, int what, int v) {
        if (!town.isHouse(house)) {
            return refuse(NOBODY);
        }
        if (what < 0 || what > 2 || v < 0 || v > (what == 2 ? STEPS_MOST : PEOPLE_MOST)) {
            return refuse(WRONG);
        }
        House altered = town.house[house];
        int was;
        if (what == 0) {
            was = altered.day;
            altered.day = v;
        } else if (what == 1) {
            was = altered.night;
            altered.night = v;
        } else {
            was = town.steps[house];
            town.steps[house] = v;
        }
        return was;
    }

    public int prop(int house, boolean is) {
        if (!town.isHouse(house)) {
            return refuse(NOBODY);
        }
        if (town.house[house].propped == is) {
            return 0;
        }
        town.house[house].propped = is;
        return 1;
    }

    public int shake(int chance, int hard) {
        if (chance < 0 || chance > 99 || hard < 0 || hard > 9) {
            return refuse(WRONG);
        }
        int number = town.addShake(chance, hard);
        return number == NONE ? refuse(ROOM) : number;
    }

    public int ask(int what, int v) {
        int was;
        if (what == 0 && v >= 1 && v <= 999) {
            was = town.coin;
            town.coin = v;
        } else if (what == 1 && v >= 0 && v <= 10) {
            was = town.shut;
            town.shut = v;
        } else if (what == 2 && v >= 0 && v <= 10) {
            was = town.daypart;
            town.daypart = v;
        } else {
            return refuse(WRONG);
        }
        return was;
    }

    public int town(int s) {
        int no = lacksRow(s);
        if (no != 0) {
            return refuse(no);
        }
        int items = reader.read(shelves[s]);
        latestFault = reader.faultPlace;
        return items == NONE ? refuse(WRONG) : items;
    }

    public int fault() {
        return latestFault;
    }

    // ---- a shake ----

    public int falls(int house, int shake) {
        if (!town.isHouse(house) || !town.isShake(shake)) {
            return refuse(NOBODY);
        }
        return town.tenths(house, shake, town.steps);
    }

    public int cut(int set) {
        if (set < 0 || set >= 1 << town.houses) {
            return refuse(NOBODY);
        }
        return town.cutCorners(town.streetsShutBy(set));
    }

    public long lost(int shake, int hour) {
        return sumOf(shake, hour, town.shut);
    }

    public long dead(int shake, int hour) {
        return sumOf(shake, hour, 0);
    }

    private long sumOf(int shake, int hour, int caughtTimes) {
        if (!town.isShake(shake)) {
            return refuse(NOBODY);
        }
        if (hour != 0 && hour != 1) {
            return refuse(WRONG);
        }
        odds.weigh(caughtTimes, 1 - hour, hour);
        return odds.sumOver(shake, town.steps);
    }

    public long shuts(int corner, int shake) {
        if (!isCorner(corner) || !town.isShake(shake)) {
            return refuse(NOBODY);
        }
        odds.weighCut(corner);
        return odds.sumOver(shake, town.steps);
    }

    public long mean() {
        odds.weighYear();
        return odds.meanBy(town.steps);
    }

    public long worth(int house) {
        if (!town.isHouse(house)) {
            return refuseFar(NOBODY);
        }
        if (town.steps[house] >= STEPS_MOST) {
            return refuseFar(WRONG);
        }
        odds.weighYear();
        return plans.worthOf(house, odds.meanBy(town.steps));
    }

    public int which() {
        return plans.worthiest();
    }

    // ---- plans ----

    public int order(int s, int i) {
        int no = lacksRule(s);
        if (no != 0) {
            return refuse(no);
        }
        int count = orders.arrange(shelves[s], places);
        if (i < 0 || i >= count || i >= HOUSES_MOST) {
            return refuse(BEYOND);
        }
        return places[i];
    }

    public long plan(int s, int n) {
        int no = lacksPlan(s, n);
        return no != 0 ? refuse(no) : plans.lossByRule(shelves[s], n);
    }

    public int steps(int s, int n) {
        int no = lacksPlan(s, n);
        return no != 0 ? refuse(no) : plans.stepsByRule(shelves[s], n);
    }

    public long judge(int s, int n) {
        int no = lacksRow(s);
        if (no != 0) {
            return refuse(no);
        }
        if (!areYears(n) || !plans.take(shelves[s])) {
            return refuse(WRONG);
        }
        return plans.lossOfRow(n);
    }

    public long best(int n) {
        if (!areYears(n) || plans.countUnstrengthened() > BEST_MOST) {
            return refuse(WRONG);
        }
        return plans.leastLoss(n);
    }

    public int first(int n, int i) {
        int count = plans.countUnstrengthened();
        if (i < 0 || i >= count) {
            return refuse(BEYOND);
        }
        if (!areYears(n) || count > BEST_MOST) {
            return refuse(WRONG);
        }
        plans.leastLoss(n);
        return plans.placeOfBest(i);
    }

    public long gap(int s, int n) {
        int no = lacksPlan(s, n);
        if (no == 0 && plans.countUnstrengthened() > BEST_MOST) {
            no = WRONG;
        }
        if (no != 0) {
            return refuseFar(no);
        }
        return plans.lossByRule(shelves[s], n) - plans.leastLoss(n);
    }

    public long bound(int n) {
        return areYears(n) ? plans.boundOf(n) : refuse(WRONG);
    }

    public int head(int n) {
        boolean any = false;
        for (int s = 0; s < SHELVES; s++) {
            any = any || shelves[s].isRule();
        }
        if (!any) {
            return refuse(BEYOND);
        }
        if (!areYears(n)) {
            return refuse(WRONG);
        }
        int ahead = NONE;
        long least = 0L;
        for (int s = 0; s < SHELVES; s++) {
            if (shelves[s].isRule()) {
                long loss = plans.lossByRule(shelves[s], n);
                if (ahead == NONE || loss < least) {
                    ahead = s;
                    least = loss;
                }
            }
        }
        return ahead;
    }

    public int narrow(int shake) {
        return town.isShake(shake) ? odds.narrowest(shake) : refuseBelowTen(NOBODY);
    }

    public int years(int s, int n) {
        int no = lacksPlan(s, n);
        if (no != 0) {
            return refuse(no);
        }
        int gone = 0;
        for (int year = 0; year < n; year++) {
            gone += plans.passYear(shelves[s]);
        }
        return gone;
    }

    public int seed(int v) {
        int was = town.seed;
        town.seed = v;
        return was;
    }

    // ---- acts, the image, the state ----

    public int act(int s, int act, int x) {
        acts.forget();
        if (!isShelf(s) || !shelves[s].isRule() || act < 0 || act > 2) {
            return 0;
        }
        return acts.perform(shelves[s], s, act, x);
    }

    public int trace(int i) {
        return acts.bodyAt(i);
    }

    public int image() {
        picture.becomeLike(town);
        pictured = true;
        return town.year;
    }

    public int restore() {
        if (!pictured) {
            return refuse(WRONG);
        }
        town.becomeLike(picture);
        return town.year;
    }

    public int status(int what) {
        if (what > 10 && what <= 10 + ROOM) {
            return refused[what - 10];
        }
        switch (what) {
            case 0:
                return town.streets;
            case 1:
                return town.houses;
            case 2:
                return town.shakes;
            case 3:
                return town.allSteps();
            case 4:
                return town.purse;
            case 5:
                return town.year;
            case 6:
                return town.gone;
            case 7:
                return town.seed;
            case 8:
                return acts.ran;
            default:
                return NONE;
        }
    }

    // ---- what is refused ----

    private int refuse(int number) {
        if (number > 0 && number <= ROOM) {
            refused[number]++;
        }
        return -number;
    }

    /** For calls whose answer may be NONE in earnest. */
    private int refuseBelowTen(int number) {
        return refuse(number) - 10;
    }

    /** For calls whose answer may be below 0 in earnest. */
    private long refuseFar(int number) {
        return refuse(number) - 1000000L;
    }

    /** The number of the refusal where a ROW is wanted; 0: there is one. */
    private int lacksRow(int s) {
        if (!isShelf(s)) {
            return NOBODY;
        }
        if (shelves[s].isRule()) {
            return OTHER;
        }
        return shelves[s].isRow() ? 0 : NOTHING;
    }

    private int lacksRule(int s) {
        if (!isShelf(s)) {
            return NOBODY;
        }
        if (shelves[s].isRow()) {
            return OTHER;
        }
        return shelves[s].isRule() ? 0 : NOTHING;
    }

    private int lacksPlan(int s, int n) {
        int no = lacksRule(s);
        if (no != 0) {
            return no;
        }
        return areYears(n) ? 0 : WRONG;
    }

    private static boolean isShelf(int s) {
        return s >= 0 && s < SHELVES;
    }

    private static boolean isKind(int kind) {
        return kind >= RULE && kind <= TOLD;
    }

    private static boolean isCorner(int corner) {
        return corner >= 0 && corner < CORNERS;
    }

    private static boolean areYears(int n) {
        return n >= 1 && n <= YEARS_MOST;
    }

    private static boolean canBeHouse(int weak, int day, int night, int cost) {
        return weak >= 0 && weak <= 9 && day >= 0 && day <= PEOPLE_MOST
            && night >= 0 && night <= PEOPLE_MOST && cost >= 1 && cost <= 99;
    }

    private static boolean isUnder(int kind, int wanted) {
        int above = kind;
        for (int level = 0; level <= TOLD && isKind(above); level++) {
            if (above == wanted) {
                return true;
            }
            above = ABOVE[above];
        }
        return false;
    }

    // ---- the classes inside ----

    /** A SHELF: NOTHING, a ROW, or a RULE. A TOLD one keeps here its ROW as it was. */
    private static final class Shelf {
        final long[] elements = new long[ELEMENTS_MOST];
        int held = NONE;
        int size = 0;
        int a = 0;

        void holdRow(int sort, int n) {
            held = ROW + sort;
            size = n;
            Arrays.fill(elements, 0L);
        }

        void holdRule(int kind, int by) {
            held = kind;
            a = by;
            size = 0;
        }

        void holdTold(Shelf row, int by) {
            for (int i = 0; i < row.size; i++) {
                elements[i] = row.asInt(i);
            }
            size = row.size;
            held = TOLD;
            a = by;
        }

        void empty() {
            held = NONE;
            size = 0;
        }

        boolean isRow() {
            return held >= ROW;
        }

        boolean isRule() {
            return held >= RULE && held < ROW;
        }

        boolean has(int i) {
            return i >= 0 && i < size;
        }

        boolean hasRange(int i, int n) {
            return i >= 0 && n >= 0 && n <= size && i <= size - n;
        }

        int asInt(int i) {
            return has(i) ? (int) elements[i] : 0;
        }

        void put(int i, long v) {
            if (!has(i)) {
                return;
            }
            switch (held - ROW) {
                case 0:
                    elements[i] = (byte) v;
                    break;
                case 1:
                    elements[i] = (short) v;
                    break;
                case 2:
                    elements[i] = (int) v;
                    break;
                default:
                    elements[i] = v;
                    break;
            }
        }
    }

    /** A HOUSE, but for its STEPS: these stand in the TOWN, as PLANS try others. */
    private static final class House {
        int corner = 0;
        int weak = 0;
        int day = 0;
        int night = 0;
        int cost = 1;
        int front = NONE;
        int next = NONE;
        boolean propped = false;

        void becomeLike(House other) {
            corner = other.corner;
            weak = other.weak;
            day = other.day;
            night = other.night;
            cost = other.cost;
            front = other.front;
            next = other.next;
            propped = other.propped;
        }
    }

    /** All that THE IMAGE keeps. */
    private static final class Town {
        final int[] endA = new int[STREETS_MOST];
        final int[] endB = new int[STREETS_MOST];
        final House[] house = new House[HOUSES_MOST];
        final int[] steps = new int[HOUSES_MOST];
        final int[] chance = new int[SHAKES_MOST];
        final int[] hard = new int[SHAKES_MOST];
        int streets = 0;
        int houses = 0;
        int shakes = 0;
        int coin = 50;
        int shut = 5;
        int daypart = 4;
        int purse = 0;
        int year = 0;
        int gone = 0;
        int seed = 1;

        Town() {
            for (int h = 0; h < HOUSES_MOST; h++) {
                house[h] = new House();
            }
        }

        void becomeLike(Town other) {
            System.arraycopy(other.endA, 0, endA, 0, STREETS_MOST);
            System.arraycopy(other.endB, 0, endB, 0, STREETS_MOST);
            for (int h = 0; h < HOUSES_MOST; h++) {
                house[h].becomeLike(other.house[h]);
            }
            System.arraycopy(other.steps, 0, steps, 0, HOUSES_MOST);
            System.arraycopy(other.chance, 0, chance, 0, SHAKES_MOST);
            System.arraycopy(other.hard, 0, hard, 0, SHAKES_MOST);
            streets = other.streets;
            houses = other.houses;
            shakes = other.shakes;
            coin = other.coin;
            shut = other.shut;
            daypart = other.daypart;
            purse = other.purse;
            year = other.year;
            gone = other.gone;
            seed = other.seed;
        }

        boolean isStreet(int number) {
            return number >= 0 && number < streets && number < STREETS_MOST;
        }

        boolean isHouse(int number) {
            return number >= 0 && number < houses && number < HOUSES_MOST;
        }

        boolean isShake(int number) {
            return number >= 0 && number < shakes && number < SHAKES_MOST;
        }

        /** The number of the new STREET; NONE: there is no room. */
        int addStreet(int a, int b) {
            if (streets >= STREETS_MOST) {
                return NONE;
            }
            endA[streets] = a;
            endB[streets] = b;
            streets++;
            return streets - 1;
        }

        int addHouse(int corner, int weak, int day, int night, int cost) {
            if (houses >= HOUSES_MOST) {
                return NONE;
            }
            House added = house[houses];
            added.corner = corner;
            added.weak = weak;
            added.day = day;
            added.night = night;
            added.cost = cost;
            added.front = NONE;
            added.next = NONE;
            added.propped = false;
            steps[houses] = 0;
            houses++;
            return houses - 1;
        }

        int addShake(int chances, int hardness) {
            if (shakes >= SHAKES_MOST) {
                return NONE;
            }
            chance[shakes] = chances;
            hard[shakes] = hardness;
            shakes++;
            return shakes - 1;
        }

        int allSteps() {
            int all = 0;
            for (int h = 0; h < houses; h++) {
                all += steps[h];
            }
            return all;
        }

        int countUpToCost(int most) {
            int count = 0;
            for (int h = 0; h < houses; h++) {
                count += house[h].cost <= most ? 1 : 0;
            }
            return count;
        }

        /** FALLS of a HOUSE, if the HOUSES had such STEPS. */
        int tenths(int h, int shake, int[] by) {
            House told = house[h];
            int sum = told.weak + hard[shake] - 4 * by[h] - (told.propped ? 2 : 0);
            if (told.next >= 0 && told.next < houses && by[told.next] > by[h]) {
                sum++;
            }
            return sum < 0 ? 0 : sum > 10 ? 10 : sum;
        }

        int frontBit(int h) {
            return house[h].front != NONE ? 1 << house[h].front : 0;
        }

        int streetsShutBy(int set) {
            int bits = 0;
            for (int h = 0; h < houses; h++) {
                if ((set >> h & 1) != 0) {
                    bits |= frontBit(h);
                }
            }
            return bits;
        }

        /** The CORNERS that are CUT when such STREETS are shut. */
        int cutCorners(int shutStreets) {
            int reached = 1;
            for (int pass = 1; pass < CORNERS; pass++) {
                int before = reached;
                for (int i = 0; i < streets; i++) {
                    int ends = 1 << endA[i] | 1 << endB[i];
                    if ((shutStreets >> i & 1) == 0 && (reached & ends) != 0) {
                        reached |= ends;
                    }
                }
                if (reached == before) {
                    break;
                }
            }
            return (1 << CORNERS) - 1 & ~reached;
        }

        int draw(int n) {
            seed = seed * 1103515245 + 12345;
            return n > 0 ? (seed >>> 16) % n : 0;
        }

        /** One SHAKE that comes: who is GONE by it. */
        int strike(int shake) {
            boolean byDay = draw(10) < daypart;
            int fallen = 0;
            for (int h = 0; h < houses; h++) {
                if (draw(10) < tenths(h, shake, steps)) {
                    fallen |= 1 << h;
                }
            }
            int cutOff = cutCorners(streetsShutBy(fallen));
            int deadOnes = 0;
            int caught = 0;
            for (int h = 0; h < houses; h++) {
                int people = byDay ? house[h].day : house[h].night;
                if ((fallen >> h & 1) != 0) {
                    deadOnes += people;
                } else if ((cutOff >> house[h].corner & 1) != 0) {
                    caught += people;
                }
            }
            return deadOnes + caught * shut / 10;
        }

        void endYear() {
            for (int h = 0; h < houses; h++) {
                House filled = house[h];
                filled.day = Math.min(PEOPLE_MOST, filled.day + steps[h]);
                filled.night = Math.min(PEOPLE_MOST, filled.night + steps[h]);
                filled.propped = false;
            }
            year++;
        }
    }

    /**
     * Sums over all sets of HOUSES that fall: first weigh what each set does, then sum by the odds of a SHAKE.
     * A HOUSE without a FRONT shuts nothing: its part is known from its tenths, so sets are of those with one.
     */
    private static final class Odds {
        private final Town town;
        private final int[] fronted = new int[HOUSES_MOST];
        private final int[] people = new int[HOUSES_MOST];
        private final int[] falls = new int[HOUSES_MOST];
        private final int[] shutStreets = new int[SETS];
        private final int[] cutOff = new int[SETS];
        private final long[] harm = new long[SETS];
        private final long[] sums = new long[SETS];
        private final long[] harmIfCut = new long[CORNERS];
        private int frontedCount = 0;
        private int caughtTimes = 0;

        Odds(Town of) {
            town = of;
        }

        private void findFronted() {
            frontedCount = 0;
            for (int h = 0; h < town.houses; h++) {
                if (town.house[h].front != NONE) {
                    fronted[frontedCount] = h;
                    frontedCount++;
                }
            }
        }

        /** Which CORNERS each set cuts off; a set that shuts no other STREETS than a smaller one is as that one. */
        private void cutBySets() {
            shutStreets[0] = 0;
            cutOff[0] = town.cutCorners(0);
            for (int i = 0; i < frontedCount; i++) {
                int half = 1 << i;
                int bit = town.frontBit(fronted[i]);
                for (int set = 0; set < half; set++) {
                    int both = shutStreets[set] | bit;
                    shutStreets[half + set] = both;
                    cutOff[half + set] = both == shutStreets[set] ? cutOff[set] : town.cutCorners(both);
                }
            }
        }

        /** 10 times DEAD and so many times CAUGHT, people being counted by DAY and by NIGHT so many times. */
        void weigh(int timesOfCaught, int dayTimes, int nightTimes) {
            findFronted();
            cutBySets();
            caughtTimes = timesOfCaught;
            for (int h = 0; h < town.houses; h++) {
                people[h] = dayTimes * town.house[h].day + nightTimes * town.house[h].night;
            }
            for (int set = 0; set < 1 << frontedCount; set++) {
                harm[set] = harmOf(set);
            }
        }

        private long harmOf(int set) {
            int deadOnes = 0;
            int caught = 0;
            for (int i = 0; i < frontedCount; i++) {
                int h = fronted[i];
                if ((set >> i & 1) != 0) {
                    deadOnes += people[h];
                } else if ((cutOff[set] >> town.house[h].corner & 1) != 0) {
                    caught += people[h];
                }
            }
            return 10L * deadOnes + (long) caughtTimes * caught;
        }

        void weighYear() {
            weigh(town.shut, town.daypart, 10 - town.daypart);
        }

        /** Counts 1 for a set that cuts the CORNER, and nobody. */
        void weighCut(int corner) {
            findFronted();
            cutBySets();
            Arrays.fill(people, 0);
            for (int set = 0; set < 1 << frontedCount; set++) {
                harm[set] = cutOff[set] >> corner & 1;
            }
        }

        /** Folds the sets HOUSE by HOUSE: each half without it, and that with it, by its tenths. */
        long sumOver(int shake, int[] by) {
            for (int h = 0; h < town.houses; h++) {
                falls[h] = town.tenths(h, shake, by);
            }
            addOthers();
            for (int i = frontedCount - 1; i >= 0; i--) {
                int fall = falls[fronted[i]];
                int stand = 10 - fall;
                int half = 1 << i;
                for (int set = 0; set < half; set++) {
                    sums[set] = sums[set] * stand + sums[half + set] * fall;
                }
            }
            return sums[0];
        }

        /** What each set does, of WHOLE of the HOUSES without a FRONT: with what befalls these when it cuts so. */
        private void addOthers() {
            Arrays.fill(harmIfCut, 0L);
            long harmAlways = 0L;
            long whole = 1L;
            long wholeButOne = 0L;
            for (int h = 0; h < town.houses; h++) {
                House other = town.house[h];
                if (other.front == NONE) {
                    harmAlways += 10L * falls[h] * people[h];
                    harmIfCut[other.corner] += (long) caughtTimes * (10 - falls[h]) * people[h];
                    wholeButOne = whole;
                    whole *= 10L;
                }
            }
            for (int set = 0; set < 1 << frontedCount; set++) {
                long others = harmAlways;
                for (int c = 1; wholeButOne > 0 && c < CORNERS; c++) {
                    others += (cutOff[set] >> c & 1) * harmIfCut[c];
                }
                sums[set] = harm[set] * whole + others * wholeButOne;
            }
        }

        /** MEAN, if the HOUSES had such STEPS; weighYear() is called ahead. */
        long meanBy(int[] by) {
            long all = 0L;
            for (int shake = 0; shake < town.shakes; shake++) {
                if (town.chance[shake] > 0) {
                    all += town.chance[shake] * sumOver(shake, by);
                }
            }
            return all;
        }

        int narrowest(int shake) {
            int most = NONE;
            long leastOpen = 0L;
            for (int street = 0; street < town.streets; street++) {
                long open = openOdds(street, shake);
                if (most == NONE || open < leastOpen) {
                    most = street;
                    leastOpen = open;
                }
            }
            return most;
        }

        private long openOdds(int street, int shake) {
            long open = 1L;
            for (int h = 0; h < town.houses; h++) {
                open *= town.house[h].front == street ? 10 - town.tenths(h, shake, town.steps) : 10;
            }
            return open;
        }
    }

    /** The ORDERS of RULES. */
    private static final class Orders {
        private final Town town;
        private final Odds odds;
        private final int[] keys = new int[HOUSES_MOST];
        private final int[] tried = new int[HOUSES_MOST];

        Orders(Town of, Odds by) {
            town = of;
            odds = by;
        }

        /** Puts the ORDER into the places: how many HOUSES it has. */
        int arrange(Shelf rule, int[] places) {
            if (rule.held == SAVES) {
                return arrangeSaving(rule.a, places);
            }
            int count = 0;
            for (int h = 0; h < town.houses; h++) {
                if (town.steps[h] < STEPS_MOST) {
                    keys[h] = keyOf(rule, h);
                    insert(h, count, places);
                    count++;
                }
            }
            return count;
        }

        /** Behind all whose key is not below its own: so the first of several stays ahead. */
        private void insert(int h, int count, int[] places) {
            int at = Math.min(count, HOUSES_MOST - 1);
            for (int i = at; i > 0 && keys[places[i - 1]] < keys[h]; i--) {
                places[i] = places[i - 1];
                at = i - 1;
            }
            places[at] = h;
        }

        private int keyOf(Shelf rule, int h) {
            House told = town.house[h];
            switch (rule.held) {
                case FULL:
                    return peopleOf(told);
                case STREET:
                    return peopleOf(told) + (told.front == NONE ? 0 : 10000);
                case WEAK:
                    return told.weak - 4 * town.steps[h];
                case PROP:
                    return told.weak - 4 * town.steps[h] - (told.propped ? 100 : 0);
                case TOLD:
                    return -placeOf(rule, h);
                default:
                    return 0;
            }
        }

        private int peopleOf(House told) {
            return town.daypart * told.day + (10 - town.daypart) * told.night;
        }

        private static int placeOf(Shelf rule, int h) {
            for (int i = 0; i < rule.size; i++) {
                if (rule.asInt(i) == h) {
                    return i;
                }
            }
            return ELEMENTS_MOST;
        }

        private int arrangeSaving(int most, int[] places) {
            odds.weighYear();
            System.arraycopy(town.steps, 0, tried, 0, HOUSES_MOST);
            int taken = 0;
            int count = 0;
            for (int i = 0; i < town.houses; i++) {
                int h = mostSaving(most, taken);
                if (h == NONE) {
                    break;
                }
                places[count] = h;
                count++;
                taken |= 1 << h;
                tried[h]++;
            }
            for (int h = 0; h < town.houses; h++) {
                if (town.steps[h] < STEPS_MOST && town.house[h].cost > most) {
                    places[count] = h;
                    count++;
                }
            }
            return count;
        }

        /** Of the HOUSES not taken yet, that whose STEP makes MEAN least. */
        private int mostSaving(int most, int taken) {
            int saving = NONE;
            long least = 0L;
            for (int h = 0; h < town.houses; h++) {
                if (town.steps[h] < STEPS_MOST && town.house[h].cost <= most && (taken >> h & 1) == 0) {
                    tried[h]++;
                    long mean = odds.meanBy(tried);
                    tried[h]--;
                    if (saving == NONE || mean < least) {
                        saving = h;
                        least = mean;
                    }
                }
            }
            return saving;
        }
    }

    /** PLANS, BEST, and YEARS in truth. */
    private static final class Plans {
        private final Town town;
        private final Odds odds;
        private final Orders orders;
        private final int[] row = new int[HOUSES_MOST];
        private final int[] stood = new int[HOUSES_MOST];
        private final int[] open = new int[HOUSES_MOST];
        private final int[] turn = new int[BEST_MOST];
        private final int[] bestTurn = new int[BEST_MOST];
        private final long[] means = new long[1 << BEST_MOST];
        private int count = 0;
        private int at = 0;
        private int purse = 0;
        private int made = 0;
        private int openCount = 0;

        Plans(Town of, Odds by, Orders from) {
            town = of;
            odds = by;
            orders = from;
        }

        // -- worth --

        /** WORTH of a HOUSE, MEAN being such; weighYear() is called ahead. */
        long worthOf(int h, long mean) {
            System.arraycopy(town.steps, 0, stood, 0, HOUSES_MOST);
            stood[h]++;
            return mean - odds.meanBy(stood);
        }

        int worthiest() {
            odds.weighYear();
            long mean = odds.meanBy(town.steps);
            int worthy = NONE;
            long most = 0L;
            for (int h = 0; h < town.houses; h++) {
                if (town.steps[h] < STEPS_MOST) {
                    long byCost = worthOf(h, mean) / Math.max(1, town.house[h].cost);
                    if (worthy == NONE || byCost > most) {
                        worthy = h;
                        most = byCost;
                    }
                }
            }
            return worthy;
        }

        // -- a plan --

        long lossByRule(Shelf rule, int n) {
            count = orders.arrange(rule, row);
            return lossOfRow(n);
        }

        int stepsByRule(Shelf rule, int n) {
            count = orders.arrange(rule, row);
            begin();
            for (int year = 0; year < n; year++) {
                spend();
            }
            return made;
        }

        /** Takes the elements for the row of a PLAN; false: one is no HOUSE, or two are alike. */
        boolean take(Shelf told) {
            int taken = 0;
            count = 0;
            for (int i = 0; i < told.size; i++) {
                int h = told.asInt(i);
                if (!town.isHouse(h) || (taken >> h & 1) != 0) {
                    return false;
                }
                taken |= 1 << h;
                row[count] = h;
                count++;
            }
            return true;
        }

        /** LOSS of the PLAN by the row as it stands. */
        long lossOfRow(int n) {
            begin();
            odds.weighYear();
            long loss = 0L;
            long mean = 0L;
            int reckoned = NONE;
            for (int year = 0; year < n; year++) {
                spend();
                if (reckoned != made) {
                    mean = odds.meanBy(stood);
                    reckoned = made;
                }
                loss += mean;
            }
            return loss;
        }

        private void begin() {
            System.arraycopy(town.steps, 0, stood, 0, HOUSES_MOST);
            purse = town.purse;
            at = 0;
            made = 0;
        }

        /** What one YEAR's COIN and the PURSE buy; the YEAR ends at the first HOUSE that is too dear. */
        private void spend() {
            purse += town.coin;
            for (int i = at; i < count; i++) {
                int h = row[i];
                if (stood[h] < STEPS_MOST) {
                    if (purse < town.house[h].cost) {
                        return;
                    }
                    purse -= town.house[h].cost;
                    stood[h]++;
                    made++;
                }
                at = i + 1;
            }
        }

        // -- the best row --

        int countUnstrengthened() {
            int found = 0;
            for (int h = 0; h < town.houses; h++) {
                found += town.steps[h] == 0 ? 1 : 0;
            }
            return found;
        }

        long boundOf(int n) {
            for (int h = 0; h < HOUSES_MOST; h++) {
                stood[h] = Math.max(1, town.steps[h]);
            }
            odds.weighYear();
            return n * odds.meanBy(stood);
        }

        /** LOSS of BEST; countUnstrengthened() is BEST_MOST at most. */
        long leastLoss(int n) {
            findOpen();
            reckonMeans();
            for (int i = 0; i < openCount; i++) {
                turn[i] = i;
            }
            long least = lossOfTurn(n);
            System.arraycopy(turn, 0, bestTurn, 0, BEST_MOST);
            for (int i = 1; i < ROWS_OF_BEST && nextTurn(); i++) {
                long loss = lossOfTurn(n);
                if (loss < least) {
                    least = loss;
                    System.arraycopy(turn, 0, bestTurn, 0, BEST_MOST);
                }
            }
            return least;
        }

        int placeOfBest(int i) {
            return i >= 0 && i < openCount ? open[bestTurn[i]] : NONE;
        }

        private void findOpen() {
            openCount = 0;
            for (int h = 0; h < town.houses && openCount < BEST_MOST; h++) {
                if (town.steps[h] == 0) {
                    open[openCount] = h;
                    openCount++;
                }
            }
        }

        /** MEAN for each set of the open HOUSES that has its STEP: all rows go through these only. */
        private void reckonMeans() {
            odds.weighYear();
            System.arraycopy(town.steps, 0, stood, 0, HOUSES_MOST);
            for (int set = 0; set < 1 << openCount; set++) {
                for (int i = 0; i < openCount; i++) {
                    stood[open[i]] = set >> i & 1;
                }
                means[set] = odds.meanBy(stood);
            }
        }

        private long lossOfTurn(int n) {
            int left = town.purse;
            int place = 0;
            int stepped = 0;
            long loss = 0L;
            for (int year = 0; year < n; year++) {
                left += town.coin;
                for (int i = place; i < openCount && left >= town.house[open[turn[i]]].cost; i++) {
                    left -= town.house[open[turn[i]]].cost;
                    stepped |= 1 << turn[i];
                    place = i + 1;
                }
                loss += means[stepped];
            }
            return loss;
        }

        /** The next row as rows of numbers are ordered; false: this was the last. */
        private boolean nextTurn() {
            int drop = NONE;
            for (int i = 0; i + 1 < openCount; i++) {
                if (turn[i] < turn[i + 1]) {
                    drop = i;
                }
            }
            if (drop == NONE) {
                return false;
            }
            int rise = drop + 1;
            for (int i = drop + 1; i < openCount; i++) {
                if (turn[i] > turn[drop]) {
                    rise = i;
                }
            }
            swapTurns(drop, rise);
            int low = drop + 1;
            for (int high = openCount - 1; low < high; high--) {
                swapTurns(low, high);
                low++;
            }
            return true;
        }

        private void swapTurns(int i, int j) {
            int kept = turn[i];
            turn[i] = turn[j];
            turn[j] = kept;
        }

        // -- a year in truth --

        /** One YEAR goes by: how many are GONE in it. */
        int passYear(Shelf rule) {
            count = orders.arrange(rule, row);
            begin();
            spend();
            System.arraycopy(stood, 0, town.steps, 0, HOUSES_MOST);
            town.purse = purse;
            int lostOnes = 0;
            for (int shake = 0; shake < town.shakes; shake++) {
                if (town.draw(1000) < town.chance[shake]) {
                    lostOnes += town.strike(shake);
                }
            }
            town.gone += lostOnes;
            town.endYear();
            return lostOnes;
        }
    }

    /** Reads a TOWN from letters: onto a draft, which the TOWN becomes when all of it stands. */
    private static final class Reader {
        private static final String WORD_STREET = "street";
        private static final String WORD_HOUSE = "house";
        private static final String WORD_SHAKE = "shake";
        private static final String WORD_COIN = "coin";
        private static final String WORD_SHUT = "shut";
        private static final String WORD_DAYPART = "daypart";
        private static final String WORD_FRONT = "front";
        private static final String WORD_NEXT = "next";
        private static final int ITEM_WORDS = 6;
        private static final int FRONT_PLACE = 6;
        private static final int NEXT_PLACE = 7;

        private final Town town;
        private final Town draft = new Town();
        private final int[] letters = new int[ELEMENTS_MOST];
        private final int[] numbers = new int[5];
        private int length = 0;
        private int at = 0;
        private int digitsAt = 0;
        private int faultPlace = NONE;

        Reader(Town of) {
            town = of;
        }

        /** How many ITEMS; NONE: there is a FAULT. */
        int read(Shelf row) {
            begin(row);
            for (int items = 1; items <= ELEMENTS_MOST && readItem(); items++) {
                if (at == length) {
                    town.becomeLike(draft);
                    return items;
                }
                if (letter(at) != ';') {
                    fail(at);
                    return NONE;
                }
                at++;
            }
            return NONE;
        }

        private void begin(Shelf row) {
            length = row.size;
            for (int i = 0; i < length; i++) {
                letters[i] = row.asInt(i);
            }
            at = 0;
            faultPlace = NONE;
            draft.becomeLike(town);
        }

        private boolean readItem() {
            int start = at;
            int word = readWord(0, ITEM_WORDS - 1);
            switch (word) {
                case 0:
                    return draft.streets < STREETS_MOST ? readStreet() : fail(start);
                case 1:
                    return draft.houses < HOUSES_MOST ? readHouse() : fail(start);
                case 2:
                    return draft.shakes < SHAKES_MOST ? readShake() : fail(start);
                case 3:
                    draft.coin = readNumber(1, 999);
                    return faultPlace == NONE;
                case 4:
                    draft.shut = readNumber(0, 10);
                    return faultPlace == NONE;
                case 5:
                    draft.daypart = readNumber(0, 10);
                    return faultPlace == NONE;
                default:
                    return false;
            }
        }

        private boolean readStreet() {
            int a = readNumber(0, CORNERS - 1);
            int b = a == NONE ? NONE : readNumber(0, CORNERS - 1);
            if (b == NONE) {
                return false;
            }
            if (a == b) {
                return fail(digitsAt);
            }
            draft.addStreet(a, b);
            return true;
        }

        private boolean readHouse() {
            for (int i = 0; i < 5; i++) {
                int most = i == 0 ? CORNERS - 1 : i == 1 ? 9 : 99;
                numbers[i] = readNumber(i == 4 ? 1 : 0, most);
                if (numbers[i] == NONE) {
                    return false;
                }
            }
            int front = NONE;
            int next = NONE;
            int word = readMore(FRONT_PLACE);
            if (word == FRONT_PLACE) {
                front = readNumber(0, draft.streets - 1);
                word = faultPlace == NONE ? readMore(NEXT_PLACE) : NONE;
            }
            if (word == NEXT_PLACE) {
                next = readNumber(0, draft.houses - 1);
            }
            if (faultPlace != NONE) {
                return false;
            }
            int number = draft.addHouse(numbers[0], numbers[1], numbers[2], numbers[3], numbers[4]);
            if (draft.isHouse(number)) {
                draft.house[number].front = front;
                draft.house[number].next = next;
            }
            return true;
        }

        private boolean readShake() {
            int chance = readNumber(0, 99);
            int hard = chance == NONE ? NONE : readNumber(0, 9);
            if (hard == NONE) {
                return false;
            }
            draft.addShake(chance, hard);
            return true;
        }

        /** What a HOUSE has behind a further blank, from such a word on; NONE: no blank, or a FAULT. */
        private int readMore(int from) {
            if (letter(at) != ' ') {
                return NONE;
            }
            at++;
            return readWord(from, NEXT_PLACE);
        }

        /** Which of these words stands here; NONE, and a FAULT behind the most of its letters that fit: none. */
        private int readWord(int from, int to) {
            int longest = 0;
            for (int word = from; word <= to; word++) {
                int fits = fitting(wordOf(word));
                if (fits == wordOf(word).length()) {
                    at += fits;
                    return word;
                }
                longest = Math.max(longest, fits);
            }
            fail(at + longest);
            return NONE;
        }

        private int fitting(String word) {
            for (int i = 0; i < word.length(); i++) {
                if (letter(at + i) != word.charAt(i)) {
                    return i;
                }
            }
            return word.length();
        }

        private static String wordOf(int place) {
            switch (place) {
                case 0:
                    return WORD_STREET;
                case 1:
                    return WORD_HOUSE;
                case 2:
                    return WORD_SHAKE;
                case 3:
                    return WORD_COIN;
                case 4:
                    return WORD_SHUT;
                case 5:
                    return WORD_DAYPART;
                case FRONT_PLACE:
                    return WORD_FRONT;
                default:
                    return WORD_NEXT;
            }
        }

        /** A blank and a NUMBER from low to high; NONE: there is a FAULT. */
        private int readNumber(int low, int high) {
            if (letter(at) != ' ') {
                fail(at);
                return NONE;
            }
            at++;
            digitsAt = at;
            int value = 0;
            for (int i = 0; i < 3 && isDigit(letter(at)); i++) {
                value = value * 10 + letter(at) - '0';
                at++;
            }
            if (at == digitsAt || value < low || value > high) {
                fail(digitsAt);
                return NONE;
            }
            return value;
        }

        private static boolean isDigit(int letter) {
            return letter >= '0' && letter <= '9';
        }

        /** NONE behind the end. */
        private int letter(int i) {
            return i >= 0 && i < length ? letters[i] : NONE;
        }

        private boolean fail(int place) {
            faultPlace = place;
            return false;
        }
    }

    /** The ACTS of a RULE: each body names itself in THE TRACE; super goes on with a KIND above. */
    private static final class Acts {
        private static final int KEPT_MOST = 20;
        private final int[] kept = new int[KEPT_MOST];
        private int ran = 0;
        private int kind = RULE;
        private int m = 0;
        private int k = 0;

        void forget() {
            ran = 0;
        }

        int bodyAt(int i) {
            return i >= 0 && i < ran && i < KEPT_MOST ? kept[i] : NONE;
        }

        int perform(Shelf rule, int shelf, int act, int x) {
            kind = rule.held;
            m = shelf;
            k = rule.a;
            switch (act) {
                case 0:
                    return ordersFrom(kind, x);
                case 1:
                    return costsFrom(kind, x);
                default:
                    return savesFrom(kind, x);
            }
        }

        private void begin(int body) {
            if (ran < KEPT_MOST) {
                kept[ran] = body;
            }
            ran++;
        }

        /** The body of that KIND, or of the next one above: each call goes to a KIND further above, RULE at last. */
        private int ordersFrom(int from, int x) {
            switch (from) {
                case STREET:
                    begin(30);
                    return ordersFrom(FULL, x + 1);
                case FULL:
                    begin(20);
                    return ordersFrom(RULE, x) + k;
                default:
                    begin(10);
                    return x + m;
            }
        }

        private int costsFrom(int from, int x) {
            switch (from) {
                case PROP:
                    begin(50);
                    return -costsFrom(WEAK, x);
                case WEAK:
                    begin(40);
                    return costsFrom(RULE, x) * 3;
                case TOLD:
                    begin(71);
                    return costsFrom(RULE, x - k);
                default:
                    begin(11);
                    return ordersFrom(kind, x) * 2;
            }
        }

        private int savesFrom(int from, int x) {
            switch (from) {
                case STREET:
                    begin(31);
                    return savesFrom(RULE, x) - m;
                case SAVES:
                    begin(60);
                    return savesFrom(RULE, x) ^ 5;
                case TOLD:
                    begin(70);
                    return savesFrom(RULE, x) * 2;
                default:
                    begin(12);
                    return costsFrom(kind, x) ^ ordersFrom(kind, x - k);
            }
        }
    }
}
