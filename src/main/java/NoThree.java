import java.util.Arrays;

/** No three neighbours of one another: a town, its charter, its deeds, and what can be asked of them. */
public final class NoThree {
    /** There is none. */
    public static final int NONE = -1;

    private static final int NO_SUCH = -2;
    private static final int BAD_NUMBER = -3;
    private static final int TOO_MANY = -4;
    private static final int NOT_NOW = -5;
    private static final int ROW_MISSING = -6;
    private static final int NO_PLACE = -7;
    private static final int DEED_REFUSED = -10;
    private static final int TEXT_REFUSED = -30;

    private static final int NO_PAIR = 1;
    private static final int DOOR_IS_THERE = 2;
    private static final int THREE_WOULD_BE = 3;
    private static final int RULE_WOULD_BREAK = 4;
    private static final int DOOR_IS_NOT_THERE = 5;
    private static final int TOWN_IS_FULL = 6;

    private static final int MOST_HOUSES = 11;
    private static final int MOST_RULES = 6;
    private static final int MOST_BYTES = 900;
    private static final int MOST_DEEDS = 12;
    private static final int MOST_WITHIN = 6;
    private static final int SETS = 1 << MOST_HOUSES;

    private static final int ROWS = 4;
    private static final int ROW_MOST = 40;
    private static final int SORTS = 4;
    private static final int IMAGES = 2;

    private static final int MARK_MOST = 6;
    private static final int MATCH_MOST = 8;
    private static final int WEAVE_MOST = 5;
    private static final int CURE_MOST = 6;
    private static final int CURE_FIRST = 10;
    private static final int WAYS_MOST = 6;
    private static final int STEPS_MOST = 10;
    private static final int COST_MOST = 99;
    private static final int TIMES_MOST = 60;

    // What all towns of so few houses come to is the same for every object; the tests count it anew.
    private static final int[] UNLIKE = {1, 1, 2, 3, 7, 14};
    private static final int[] UNLIKE_NO_FOURS = {1, 1, 2, 3, 6, 11};
    private static final int[] MOST_DOORS = {0, 0, 1, 2, 4, 6, 9};
    private static final int[] MOST_DOORS_NO_FOURS = {0, 0, 1, 2, 3, 5, 6};

    private final Annals now = new Annals();
    private final Annals firstImage = new Annals();
    private final Annals secondImage = new Annals();
    private final boolean[] imageMade = new boolean[IMAGES];
    private final Reader reader = new Reader();
    private final Feasts feasting = new Feasts();
    private final Painter painter = new Painter();
    private final Gossip gossip = new Gossip();
    private final Kin kin = new Kin();
    private final Healer healer = new Healer();
    private final Council council = new Council();
    private final Market market = new Market();
    private final Town asIf = new Town();
    private final long[] rowNumbers = new long[ROWS * ROW_MOST];
    private final int[] rowSorts = new int[ROWS];
    private final int[] rowSizes = new int[ROWS];

    public NoThree() {
        for (int row = 0; row < ROWS; row++) {
            rowSizes[row] = NONE;
        }
    }

    // ---- the town

    public int feed(int a, int b, int c, int d, int e) {
        if (!reader.hasRoomFor(20)) {
            return NOT_NOW;
        }
        reader.append(a);
        reader.append(b);
        reader.append(c);
        reader.append(d);
        reader.append(e);
        return reader.onTape;
    }

    public int town(int n) {
        if (n < 0 || n > reader.onTape) {
            return BAD_NUMBER;
        }
        reader.read(n);
        if (reader.faultKind != 0) {
            return TEXT_REFUSED - reader.faultKind;
        }
        now.become(reader.draft);
        return now.lines;
    }

    public int fault(int what) {
        if (what == 0) {
            return reader.faultKind;
        }
        return what == 1 ? reader.faultPlace : NONE;
    }

    public int house(int h, int what) {
        if (!now.town.has(h)) {
            return NO_SUCH;
        }
        switch (what) {
            case 0:
                return now.town.doorsOf(h);
            case 1:
                return now.town.neighbours(h);
            case 2:
                return now.town.threesWith(h);
            case 3:
                return now.town.foursWith(h);
            case 4:
                return now.town.farthest(h);
            case 5:
                return now.town.within(h, MOST_HOUSES);
            case 6:
                return now.town.twoStepsFrom(h);
            default:
                return NO_SUCH;
        }
    }

    public int steps(int a, int b) {
        if (!now.town.has(a) || !now.town.has(b)) {
            return NO_SUCH;
        }
        return now.town.stepsBetween(a, b);
    }

    public int holds(int rule, int h) {
        if (rule < 0 || rule >= now.rules.number || !now.town.has(h)) {
            return NO_SUCH;
        }
        convene(now.town);
        return (council.holdingNow(rule) & 1 << h) != 0 ? 1 : 0;
    }

    public int broken(int what) {
        if (what < 0 || what > 1) {
            return NO_SUCH;
        }
        convene(now.town);
        for (int h = 0; h < now.town.houses; h++) {
            for (int rule = 0; rule < now.rules.number; rule++) {
                if ((council.holdingNow(rule) & 1 << h) == 0) {
                    return what == 0 ? h : rule;
                }
            }
        }
        return NONE;
    }

    public int breaches() {
        convene(now.town);
        int cases = 0;
        for (int rule = 0; rule < now.rules.number; rule++) {
            cases += now.town.houses - Integer.bitCount(council.holdingNow(rule));
        }
        return cases;
    }

    // ---- deeds

    public int why(int a, int b) {
        convene(now.town);
        return council.reasonAgainstJoin(a, b);
    }

    public int join(int a, int b) {
        convene(now.town);
        int reason = council.reasonAgainstJoin(a, b);
        if (reason != 0) {
            return DEED_REFUSED - reason;
        }
        now.remember();
        now.town.link(a, b);
        return now.town.doors();
    }

    public int wall(int a, int b) {
        int reason = reasonAgainstWall(a, b);
        if (reason != 0) {
            return DEED_REFUSED - reason;
        }
        now.remember();
        now.town.part(a, b);
        return now.town.doors();
    }

    public int may(int h) {
        if (!now.town.has(h)) {
            return NO_SUCH;
        }
        convene(now.town);
        int can = 0;
        for (int other = 0; other < now.town.houses; other++) {
            if (council.reasonAgainstJoin(h, other) == 0) {
                can |= 1 << other;
            }
        }
        return can;
    }

    public int enter(int set) {
        convene(now.town);
        int reason = council.reasonAgainstEntry(set);
        if (reason != 0) {
            return DEED_REFUSED - reason;
        }
        settle(set);
        return now.town.houses - 1;
    }

    public int leave(int h) {
        if (!now.town.has(h)) {
            return DEED_REFUSED - NO_PAIR;
        }
        now.remember();
        now.town.drop(h);
        return now.town.houses;
    }

    public int weave() {
        if (now.town.houses > WEAVE_MOST) {
            return TOO_MANY;
        }
        now.remember();
        now.town.twinAll();
        return now.town.houses;
    }

    public int undo(int n) {
        if (n < 1 || n > MOST_DEEDS || n > now.deeds) {
            return BAD_NUMBER;
        }
        now.takeBack(n);
        return now.deeds;
    }

    public int judge(int row, int what) {
        if (!isRow(row) || what < 0 || what > 3) {
            return NO_SUCH;
        }
        if (rowSizes[row] < 0) {
            return ROW_MISSING;
        }
        asIf.become(now.town);
        int place = NONE;
        int reason = 0;
        for (int i = 0; i < rowSizes[row] && reason == 0; i++) {
            long act = numberAt(row, i);
            reason = reasonAgainstAct(asIf, act);
            if (reason == 0) {
                turnDoor(asIf, act);
            } else {
                place = i;
            }
        }
        switch (what) {
            case 0:
                return place;
            case 1:
                return reason;
            case 2:
                return asIf.doors();
            default:
                return asIf.threes();
        }
    }

    public int perform(int row) {
        if (!isRow(row)) {
            return NO_SUCH;
        }
        if (rowSizes[row] < 0) {
            return ROW_MISSING;
        }
        int done = 0;
        for (int i = 0; i < rowSizes[row]; i++) {
            long act = numberAt(row, i);
            if (reasonAgainstAct(now.town, act) != 0) {
                break;
            }
            now.remember();
            turnDoor(now.town, act);
            done++;
        }
        return done;
    }

    public int grow(int n) {
        if (n < 1 || n > MOST_HOUSES) {
            return BAD_NUMBER;
        }
        int came = 0;
        for (int i = 0; i < n; i++) {
            int set = nextToGrowBy();
            if (set == NONE) {
                break;
            }
            settle(set);
            came++;
        }
        return came;
    }

    public int century(int seed, int times) {
        if (times < 1 || times > TIMES_MOST) {
            return BAD_NUMBER;
        }
        int houses = now.town.houses;
        if (houses <= 0) {
            return NOT_NOW;
        }
        int x = seed;
        int done = 0;
        for (int i = 0; i < times; i++) {
            x = nextDraw(x);
            int a = (x >>> 16) % houses;
            x = nextDraw(x);
            int b = (x >>> 16) % houses;
            x = nextDraw(x);
            boolean walls = (x >>> 16) % 4 == 0;
            int answer = walls ? wall(a, b) : join(a, b);
            if (answer >= 0) {
                done++;
            }
        }
        return done;
    }

    // ---- threes, fours, scandals

    public int three(int k) {
        if (k == NONE) {
            return now.town.threes();
        }
        return now.town.threeAt(k);
    }

    public int fours() {
        return now.town.roundsOfFour();
    }

    public int scandal() {
        return now.town.leastOddRing();
    }

    public int halves() {
        return now.town.firstHalf(now.town.all());
    }

    public int strangers() {
        return now.town.strangeThrees();
    }

    public int six(int what) {
        if (what < 0 || what > 1) {
            return NO_SUCH;
        }
        int set = now.town.calmestSix();
        if (set == NONE) {
            return NONE;
        }
        return what == 0 ? now.town.meetingsInSix(set) : set;
    }

    // ---- feasts, colours

    public int feasts() {
        feasting.lay(now.town);
        return feasting.howMany();
    }

    public int full() {
        feasting.lay(now.town);
        return feasting.howManyFull();
    }

    public int feast(int h) {
        if (h != NONE && !now.town.has(h)) {
            return NO_SUCH;
        }
        feasting.lay(now.town);
        return feasting.largest(h == NONE ? 0 : 1 << h);
    }

    public int colours() {
        return painter.fewest(now.town, now.town.all());
    }

    public int colour(int h) {
        if (!now.town.has(h)) {
            return NO_SUCH;
        }
        return painter.firstShade(now.town, h);
    }

    public long ways(int k) {
        if (k < 0 || k > WAYS_MOST) {
            return BAD_NUMBER;
        }
        return painter.waysWith(now.town, k);
    }

    public int dear() {
        int all = now.town.all();
        int fewest = painter.fewest(now.town, all);
        for (int h = 0; h < now.town.houses; h++) {
            if (painter.fewest(now.town, all & ~(1 << h)) < fewest) {
                return h;
            }
        }
        return NONE;
    }

    // ---- gossip

    public int telling(int h) {
        if (!now.town.has(h)) {
            return NO_SUCH;
        }
        gossip.listen(now.town);
        return gossip.roundsFrom(h);
    }

    public int teller() {
        gossip.listen(now.town);
        return gossip.bestTeller();
    }

    public int safe(int h, int n) {
        if (!now.town.has(h)) {
            return NO_SUCH;
        }
        if (n < 0 || n > STEPS_MOST) {
            return BAD_NUMBER;
        }
        return now.town.all() & ~now.town.within(h, n);
    }

    public int wide(int what) {
        if (what < 0 || what > 1) {
            return NO_SUCH;
        }
        if (now.town.houses == 0) {
            return NONE;
        }
        int widest = 0;
        int pair = NONE;
        for (int a = 0; a < now.town.houses; a++) {
            for (int b = a + 1; b < now.town.houses; b++) {
                int steps = now.town.stepsBetween(a, b);
                if (steps > widest) {
                    widest = steps;
                    pair = 100 * a + b;
                }
            }
        }
        return what == 0 ? widest : pair;
    }

    // ---- alike ones

    public int mark() {
        if (now.town.houses > MARK_MOST) {
            return TOO_MANY;
        }
        return kin.leastNumber(now.town);
    }

    public int selves() {
        if (now.town.houses > MATCH_MOST) {
            return TOO_MANY;
        }
        return kin.matchesToItself(now.town);
    }

    public int alike(int image) {
        if (!isImage(image)) {
            return NO_SUCH;
        }
        if (!imageMade[image]) {
            return NOT_NOW;
        }
        Town other = imageAt(image).town;
        if (now.town.houses > MATCH_MOST || other.houses > MATCH_MOST) {
            return TOO_MANY;
        }
        return kin.canBeMatched(now.town, other) ? 1 : 0;
    }

    public int unlike(int n, boolean fours) {
        if (n < 0 || n >= UNLIKE.length || n >= UNLIKE_NO_FOURS.length) {
            return BAD_NUMBER;
        }
        return fours ? UNLIKE_NO_FOURS[n] : UNLIKE[n];
    }

    public int mostDoors(int n, boolean fours) {
        if (n < 0 || n >= MOST_DOORS.length || n >= MOST_DOORS_NO_FOURS.length) {
            return BAD_NUMBER;
        }
        return fours ? MOST_DOORS_NO_FOURS[n] : MOST_DOORS[n];
    }

    // ---- cures, rests

    public int cure(int what) {
        if (what != 0 && (what < CURE_FIRST || what >= CURE_FIRST + CURE_MOST)) {
            return NO_SUCH;
        }
        int walls = healer.fewestWalls(now.town);
        if (walls > CURE_MOST) {
            return TOO_MANY;
        }
        return what == 0 ? walls : healer.wallAt(what - CURE_FIRST);
    }

    public int pay(int h, int cost) {
        if (!now.town.has(h)) {
            return NO_SUCH;
        }
        if (!isCost(cost)) {
            return BAD_NUMBER;
        }
        return market.worth(now.town, h) - cost * now.town.doorsOf(h);
    }

    public int atRest(int cost) {
        if (!isCost(cost)) {
            return BAD_NUMBER;
        }
        market.visit(now.town);
        return market.nextChange(now.rules, council, cost) == NONE ? 1 : 0;
    }

    public int changing(int cost, int what) {
        if (what < 0 || what > 2) {
            return NO_SUCH;
        }
        if (!isCost(cost)) {
            return BAD_NUMBER;
        }
        market.visit(now.town);
        int times = 0;
        int next = market.nextChange(now.rules, council, cost);
        for (int i = 0; i < TIMES_MOST && next != NONE; i++) {
            turnDoor(market.scene, next);
            times++;
            next = market.nextChange(now.rules, council, cost);
        }
        switch (what) {
            case 0:
                return times;
            case 1:
                return market.scene.doors();
            default:
                return next == NONE ? 1 : 0;
        }
    }

    public int dearness() {
        market.visit(now.town);
        return market.leastCostOfRest(now.rules, council);
    }

    // ---- rows of numbers, images

    public int numbers(int row, int sort, int n) {
        if (!isRow(row) || sort < 0 || sort >= SORTS) {
            return NO_SUCH;
        }
        if (n < 0 || n > ROW_MOST) {
            return BAD_NUMBER;
        }
        rowSorts[row] = sort;
        rowSizes[row] = n;
        for (int i = 0; i < n; i++) {
            rowNumbers[row * ROW_MOST + i] = 0;
        }
        return 0;
    }

    public long write(int row, int i, long v) {
        if (!isRow(row)) {
            return NO_SUCH;
        }
        if (rowSizes[row] < 0) {
            return ROW_MISSING;
        }
        if (i < 0 || i >= rowSizes[row]) {
            return NO_PLACE;
        }
        putNumber(row, i, v);
        return numberAt(row, i);
    }

    public int copy(int row) {
        if (!isRow(row)) {
            return NO_SUCH;
        }
        if (rowSizes[row] < 0) {
            return ROW_MISSING;
        }
        int copied = 0;
        for (int a = 0; a < now.town.houses; a++) {
            for (int b = a + 1; b < now.town.houses; b++) {
                if (copied < rowSizes[row] && now.town.linked(a, b)) {
                    putNumber(row, copied, 100L * a + b);
                    copied++;
                }
            }
        }
        return copied;
    }

    public int image(int i) {
        if (!isImage(i)) {
            return NO_SUCH;
        }
        imageAt(i).become(now);
        imageMade[i] = true;
        return 0;
    }

    public int restore(int i) {
        if (!isImage(i)) {
            return NO_SUCH;
        }
        if (!imageMade[i]) {
            return NOT_NOW;
        }
        now.become(imageAt(i));
        return 0;
    }

    public int count(int what) {
        switch (what) {
            case 0:
                return now.town.houses;
            case 1:
                return now.town.doors();
            case 2:
                return now.rules.number;
            case 3:
                return now.deeds;
            case 4:
                return now.town.threes();
            case 5:
                return now.town.parts();
            case 6:
                return reader.onTape;
            case 7:
                return now.lines;
            default:
                return NONE;
        }
    }

    // ---- what the calls share

    private static boolean isRow(int row) {
        return row >= 0 && row < ROWS;
    }

    private static boolean isImage(int i) {
        return i >= 0 && i < IMAGES;
    }

    private Annals imageAt(int i) {
        return i == 0 ? firstImage : secondImage;
    }

    private static boolean isCost(int cost) {
        return cost >= 0 && cost <= COST_MOST;
    }

    private static int nextDraw(int x) {
        return 1103515245 * x + 12345;
    }

    private void convene(Town town) {
        council.convene(now.rules, town);
    }

    private void settle(int set) {
        now.remember();
        now.town.addHouse(set);
    }

    private int reasonAgainstWall(int a, int b) {
        if (!now.town.isPair(a, b)) {
            return NO_PAIR;
        }
        return now.town.linked(a, b) ? 0 : DOOR_IS_NOT_THERE;
    }

    /** The set by which the next house grows, NONE if no house can come. */
    private int nextToGrowBy() {
        if (now.town.houses >= MOST_HOUSES) {
            return NONE;
        }
        convene(now.town);
        feasting.lay(now.town);
        int most = Integer.bitCount(feasting.largest(0));
        for (int guests = most; guests >= 0; guests--) {
            for (int set = 0; set <= now.town.all(); set++) {
                if (Integer.bitCount(set) == guests && feasting.isFeast(set)
                        && council.reasonAgainstEntry(set) == 0) {
                    return set;
                }
            }
        }
        return NONE;
    }

    private int reasonAgainstAct(Town town, long act) {
        if (act < 0 || act >= 100L * MOST_HOUSES) {
            return NO_PAIR;
        }
        int a = (int) act / 100;
        int b = (int) act % 100;
        if (!town.isPair(a, b)) {
            return NO_PAIR;
        }
        if (town.linked(a, b)) {
            return 0;
        }
        convene(town);
        return council.reasonAgainstJoin(a, b);
    }

    /** Walls a door, or joins where there is none. */
    private static void turnDoor(Town town, long act) {
        int a = (int) act / 100;
        int b = (int) act % 100;
        if (town.linked(a, b)) {
            town.part(a, b);
        } else {
            town.link(a, b);
        }
    }

    private long numberAt(int row, int i) {
        int at = row * ROW_MOST + i;
        return at >= 0 && at < rowNumbers.length ? rowNumbers[at] : 0;
    }

    private void putNumber(int row, int i, long v) {
        int at = row * ROW_MOST + i;
        if (at >= 0 && at < rowNumbers.length) {
            rowNumbers[at] = cutTo(rowSorts[row], v);
        }
    }

    private static long cutTo(int sort, long v) {
        switch (sort) {
            case 0:
                return (byte) v;
            case 1:
                return (short) v;
            case 2:
                return (int) v;
            default:
                return v;
        }
    }

    /** Houses and the doors between them. */
    static final class Town {
        int houses = 0;
        // The neighbours of each house as bits; 0 for what is no house.
        final int[] near = new int[MOST_HOUSES];

        boolean has(int h) {
            return h >= 0 && h < houses;
        }

        boolean isPair(int a, int b) {
            return has(a) && has(b) && a != b;
        }

        int all() {
            return (1 << houses) - 1;
        }

        int neighbours(int h) {
            return h >= 0 && h < houses ? near[h] : 0;
        }

        boolean linked(int a, int b) {
            return has(a) && has(b) && (near[a] & 1 << b) != 0;
        }

        void become(Town other) {
            houses = other.houses;
            for (int h = 0; h < MOST_HOUSES; h++) {
                near[h] = other.near[h];
            }
        }

        void clear() {
            houses = 0;
            Arrays.fill(near, 0);
        }

        void link(int a, int b) {
            if (isPair(a, b)) {
                near[a] |= 1 << b;
                near[b] |= 1 << a;
            }
        }

        void part(int a, int b) {
            if (isPair(a, b)) {
                near[a] &= ~(1 << b);
                near[b] &= ~(1 << a);
            }
        }

        void addHouse(int set) {
            if (houses >= MOST_HOUSES) {
                return;
            }
            int one = houses;
            houses++;
            for (int h = 0; h < one; h++) {
                if ((set & 1 << h) != 0) {
                    link(h, one);
                }
            }
        }

        void drop(int h) {
            if (!has(h)) {
                return;
            }
            for (int i = h; i + 1 < houses; i++) {
                near[i] = near[i + 1];
            }
            houses--;
            near[houses] = 0;
            int below = (1 << h) - 1;
            for (int i = 0; i < houses; i++) {
                near[i] = near[i] & below | near[i] >>> 1 & ~below;
            }
        }

        void twinAll() {
            int old = houses;
            if (old > WEAVE_MOST) {
                return;
            }
            int elders = all();
            for (int h = 0; h < old; h++) {
                addHouse(near[h] & elders);
            }
            addHouse(all() & ~elders);
        }

        int doorsOf(int h) {
            return Integer.bitCount(neighbours(h));
        }

        int doors() {
            int ends = 0;
            for (int h = 0; h < houses; h++) {
                ends += Integer.bitCount(near[h]);
            }
            return ends / 2;
        }

        /** All neighbours of those in a set. */
        int around(int set) {
            int found = 0;
            for (int h = 0; h < houses; h++) {
                if ((set & 1 << h) != 0) {
                    found |= near[h];
                }
            }
            return found;
        }

        int within(int h, int steps) {
            int known = has(h) ? 1 << h : 0;
            for (int i = 0; i < steps && i < MOST_HOUSES; i++) {
                known |= around(known);
            }
            return known;
        }

        int twoStepsFrom(int h) {
            return around(neighbours(h)) & ~neighbours(h) & ~(1 << h);
        }

        int farthest(int h) {
            int known = has(h) ? 1 << h : 0;
            int steps = 0;
            for (int i = 0; i < MOST_HOUSES; i++) {
                int more = around(known) & ~known;
                if (more == 0) {
                    break;
                }
                known |= more;
                steps++;
            }
            return steps;
        }

        int stepsBetween(int a, int b) {
            int known = has(a) ? 1 << a : 0;
            int goal = has(b) ? 1 << b : 0;
            for (int steps = 0; steps < MOST_HOUSES; steps++) {
                if ((known & goal) != 0) {
                    return steps;
                }
                int more = around(known) & ~known;
                if (more == 0) {
                    break;
                }
                known |= more;
            }
            return NONE;
        }

        int parts() {
            int seen = 0;
            int found = 0;
            for (int h = 0; h < houses; h++) {
                if ((seen & 1 << h) == 0) {
                    seen |= within(h, MOST_HOUSES);
                    found++;
                }
            }
            return found;
        }

        int threesWith(int h) {
            int ends = 0;
            for (int other = 0; other < houses; other++) {
                if ((neighbours(h) & 1 << other) != 0) {
                    ends += Integer.bitCount(near[h] & near[other]);
                }
            }
            return ends / 2;
        }

        int threes() {
            int found = 0;
            for (int a = 0; a < houses; a++) {
                for (int b = a + 1; b < houses; b++) {
                    if (linked(a, b)) {
                        found += Integer.bitCount(commonAbove(a, b));
                    }
                }
            }
            return found;
        }

        int threeAt(int k) {
            int left = k;
            for (int a = 0; a < houses; a++) {
                for (int b = a + 1; b < houses; b++) {
                    int third = linked(a, b) ? commonAbove(a, b) : 0;
                    for (int c = b + 1; c < houses; c++) {
                        if ((third & 1 << c) == 0) {
                            continue;
                        }
                        if (left == 0) {
                            return 10000 * a + 100 * b + c;
                        }
                        left--;
                    }
                }
            }
            return NONE;
        }

        private int commonAbove(int a, int b) {
            return near[a] & near[b] & -2 << b;
        }

        // In a round of four two houses that face one another share two neighbours.
        private static int roundsBy(int shared) {
            return shared * (shared - 1) / 2;
        }

        int foursWith(int h) {
            int found = 0;
            for (int other = 0; other < houses; other++) {
                if (other != h) {
                    found += roundsBy(Integer.bitCount(neighbours(h) & near[other]));
                }
            }
            return found;
        }

        int roundsOfFour() {
            int found = 0;
            for (int a = 0; a < houses; a++) {
                for (int b = a + 1; b < houses; b++) {
                    found += roundsBy(Integer.bitCount(near[a] & near[b]));
                }
            }
            // Each round has two pairs that face one another.
            return found / 2;
        }

        int leastOddRing() {
            int least = NONE;
            for (int h = 0; h < houses; h++) {
                int length = leastOddWalk(h);
                if (length != NONE && (least == NONE || length < least)) {
                    least = length;
                }
            }
            return least;
        }

        // The shortest odd walk back to a house need not be a ring, but the shortest of all houses' is one.
        private int leastOddWalk(int h) {
            int seenEven = 1 << h;
            int seenOdd = 0;
            int front = seenEven;
            for (int length = 1; length <= 2 * MOST_HOUSES; length++) {
                boolean odd = length % 2 == 1;
                front = around(front) & ~(odd ? seenOdd : seenEven);
                if (odd && (front & 1 << h) != 0) {
                    return length;
                }
                if (odd) {
                    seenOdd |= front;
                } else {
                    seenEven |= front;
                }
            }
            return NONE;
        }

        /** The first of the halves of what stands in a set, NONE if it has none. */
        int firstHalf(int set) {
            int first = 0;
            int second = 0;
            for (int h = 0; h < houses; h++) {
                if (((set & ~first & ~second) & 1 << h) == 0) {
                    continue;
                }
                int here = 1 << h;
                int there = 0;
                for (int i = 0; i < MOST_HOUSES; i++) {
                    int more = around(here) & set;
                    if (more == there) {
                        break;
                    }
                    there = more;
                    here |= around(there) & set;
                }
                if ((here & there) != 0) {
                    return NONE;
                }
                first |= here;
                second |= there;
            }
            return first;
        }

        int strangeThrees() {
            int found = 0;
            for (int a = 0; a < houses; a++) {
                for (int b = a + 1; b < houses; b++) {
                    if (!linked(a, b)) {
                        found += Integer.bitCount(all() & ~near[a] & ~near[b] & -2 << b);
                    }
                }
            }
            return found;
        }

        int calmestSix() {
            int best = NONE;
            int fewest = 0;
            for (int set = 0; set <= all(); set++) {
                if (Integer.bitCount(set) != 6) {
                    continue;
                }
                int meetings = meetingsInSix(set);
                if (best == NONE || meetings < fewest) {
                    best = set;
                    fewest = meetings;
                }
            }
            return best;
        }

        // Each of the 20 sets of three that is mixed has two houses with one neighbour of the two others.
        int meetingsInSix(int set) {
            int mixedEnds = 0;
            for (int h = 0; h < houses; h++) {
                if ((set & 1 << h) != 0) {
                    int met = Integer.bitCount(near[h] & set);
                    mixedEnds += met * (5 - met);
                }
            }
            return 20 - mixedEnds / 2;
        }
    }

    /** The rules of a charter, each a run of code in which what is worked on stands ahead of the work. */
    static final class Rules {
        // Below WORDS a piece of code is a number, below WORKS a word, else a work.
        static final int WORDS = 1000;
        static final int DOORS = 1000;
        static final int THREES = 1001;
        static final int FOURS = 1002;
        static final int FAR = 1003;
        static final int HOUSES = 1004;
        static final int PAIRS = 1005;
        static final int FEAST = 1006;
        static final int COLOURS = 1007;
        static final int HALVES = 1008;
        static final int WORKS = 2000;
        static final int PLUS = 2000;
        static final int LESS = 2001;
        static final int TIMES = 2002;
        static final int SAME = 2003;
        static final int BELOW = 2004;
        static final int ABOVE = 2005;
        static final int NOT = 2006;
        static final int AND = 2007;
        static final int OR = 2008;

        int number = 0;
        final int[] starts = new int[MOST_RULES + 1];
        // The words of each rule as bits.
        final int[] uses = new int[MOST_RULES];
        final int[] code = new int[MOST_BYTES];
        private int length = 0;

        void clear() {
            number = 0;
            length = 0;
            Arrays.fill(uses, 0);
        }

        void become(Rules other) {
            number = other.number;
            length = other.length;
            for (int i = 0; i <= MOST_RULES; i++) {
                starts[i] = other.starts[i];
            }
            for (int i = 0; i < MOST_RULES; i++) {
                uses[i] = other.uses[i];
            }
            for (int i = 0; i < length && i < MOST_BYTES; i++) {
                code[i] = other.code[i];
            }
        }

        /** Adds a piece to the rule that is being told. */
        void add(int piece) {
            if (length < 0 || length >= MOST_BYTES || number < 0 || number >= MOST_RULES) {
                return;
            }
            code[length] = piece;
            length++;
            if (piece >= WORDS && piece < WORKS) {
                uses[number] |= 1 << piece - WORDS;
            }
        }

        void close() {
            if (number >= 0 && number < MOST_RULES) {
                number++;
                starts[number] = length;
            }
        }
    }

    /** A town with its charter and its latest deeds: all that an image holds. */
    static final class Annals {
        private static final int SLOT = MOST_HOUSES + 1;

        final Town town = new Town();
        final Rules rules = new Rules();
        int lines = 0;
        int deeds = 0;
        private int latest = 0;
        // For each deed that can be undone the town ahead of it: its neighbours, then how many houses.
        private final int[] past = new int[MOST_DEEDS * SLOT];

        void become(Annals other) {
            town.become(other.town);
            rules.become(other.rules);
            lines = other.lines;
            deeds = other.deeds;
            latest = other.latest;
            for (int i = 0; i < past.length; i++) {
                past[i] = other.past[i];
            }
        }

        void clear() {
            town.clear();
            rules.clear();
            lines = 0;
            deeds = 0;
        }

        void remember() {
            latest = latest + 1 < MOST_DEEDS ? latest + 1 : 0;
            int at = latest * SLOT;
            for (int h = 0; h < MOST_HOUSES; h++) {
                past[at + h] = town.near[h];
            }
            past[at + MOST_HOUSES] = town.houses;
            deeds = Math.min(deeds + 1, MOST_DEEDS);
        }

        void takeBack(int n) {
            for (int i = 0; i < n && deeds > 0; i++) {
                int at = latest * SLOT;
                for (int h = 0; h < MOST_HOUSES; h++) {
                    town.near[h] = past[at + h];
                }
                town.houses = past[at + MOST_HOUSES];
                latest = latest > 0 ? latest - 1 : MOST_DEEDS - 1;
                deeds--;
            }
        }
    }

    /** Reads the tape: the first fault along it, or a draft of the town that it tells. */
    static final class Reader {
        // A token is a number's value, or a word's or work's piece of code, or one of these.
        private static final int DOOR = 3000;
        private static final int RING = 3001;
        private static final int RULE = 3002;
        private static final int UNKNOWN = 3003;
        private static final int BAD = 3004;
        private static final int END = 3005;
        private static final int SIGNS = 4000;

        private static final int FAULT_NO_TOKEN = 1;
        private static final int FAULT_MISPLACED = 2;
        private static final int FAULT_BOUNDS = 3;
        private static final int FAULT_TOO_MANY = 4;

        int onTape = 0;
        int faultKind = 0;
        int faultPlace = NONE;
        final Annals draft = new Annals();
        private final byte[] tape = new byte[MOST_BYTES];
        private final int[] tokens = new int[MOST_BYTES + 1];
        private final int[] places = new int[MOST_BYTES + 1];
        private int end = 0;
        private int next = 0;
        private int token = END;

        boolean hasRoomFor(int bytes) {
            return onTape + bytes <= MOST_BYTES;
        }

        void append(int four) {
            for (int shift = 24; shift >= 0; shift -= 8) {
                if (onTape >= 0 && onTape < MOST_BYTES) {
                    tape[onTape] = (byte) (four >> shift);
                    onTape++;
                }
            }
        }

        /** Reads the first n bytes; the tape is empty then. */
        void read(int n) {
            end = Math.min(Math.max(n, 0), MOST_BYTES);
            onTape = 0;
            faultKind = 0;
            faultPlace = NONE;
            draft.clear();
            findTokens();
            next = 0;
            token = tokens[0];
            for (int i = 0; i < MOST_BYTES && token != END; i++) {
                boolean well;
                switch (token) {
                    case Rules.HOUSES:
                        well = readHouses();
                        break;
                    case DOOR:
                        well = readDoor();
                        break;
                    case RING:
                        well = readRing();
                        break;
                    case RULE:
                        well = readRule();
                        break;
                    default:
                        well = blame(FAULT_MISPLACED);
                        break;
                }
                if (!well || !pass(SIGNS + ';')) {
                    break;
                }
                draft.lines++;
            }
        }

        // ---- tokens

        private void findTokens() {
            int found = 0;
            int at = 0;
            for (int i = 0; i < MOST_BYTES && at < end; i++) {
                if (isBlank(at)) {
                    at++;
                    continue;
                }
                int behind = endOfToken(at);
                places[found] = at;
                tokens[found] = tokenOf(at, behind);
                found++;
                at = behind;
            }
            places[found] = end;
            tokens[found] = END;
        }

        private int byteAt(int at) {
            return at >= 0 && at < end ? tape[at] : 0;
        }

        private boolean isBlank(int at) {
            return byteAt(at) == 10 || byteAt(at) == 32;
        }

        private boolean isLetter(int at) {
            return byteAt(at) >= 'a' && byteAt(at) <= 'z';
        }

        private boolean isDigit(int at) {
            return byteAt(at) >= '0' && byteAt(at) <= '9';
        }

        private int endOfToken(int at) {
            int behind = at + 1;
            if (isLetter(at)) {
                while (behind < end && isLetter(behind)) {
                    behind++;
                }
            } else if (isDigit(at)) {
                while (behind < end && isDigit(behind)) {
                    behind++;
                }
            }
            return behind;
        }

        private int tokenOf(int at, int behind) {
            if (isLetter(at)) {
                return wordOf(at, behind);
            }
            if (!isDigit(at)) {
                int sign = byteAt(at);
                return sign > 0 && ";:+-*()[]=<>".indexOf((char) sign) >= 0 ? SIGNS + sign : BAD;
            }
            if (behind - at > 3) {
                return BAD;
            }
            int value = 0;
            for (int i = at; i < behind; i++) {
                value = 10 * value + byteAt(i) - '0';
            }
            return value;
        }

        private int wordOf(int at, int behind) {
            if (spells("houses", at, behind)) {
                return Rules.HOUSES;
            }
            if (spells("door", at, behind)) {
                return DOOR;
            }
            if (spells("ring", at, behind)) {
                return RING;
            }
            if (spells("rule", at, behind)) {
                return RULE;
            }
            if (spells("not", at, behind)) {
                return Rules.NOT;
            }
            if (spells("and", at, behind)) {
                return Rules.AND;
            }
            if (spells("or", at, behind)) {
                return Rules.OR;
            }
            return ruleWordOf(at, behind);
        }

        private int ruleWordOf(int at, int behind) {
            if (spells("doors", at, behind)) {
                return Rules.DOORS;
            }
            if (spells("threes", at, behind)) {
                return Rules.THREES;
            }
            if (spells("fours", at, behind)) {
                return Rules.FOURS;
            }
            if (spells("far", at, behind)) {
                return Rules.FAR;
            }
            if (spells("pairs", at, behind)) {
                return Rules.PAIRS;
            }
            if (spells("feast", at, behind)) {
                return Rules.FEAST;
            }
            if (spells("colours", at, behind)) {
                return Rules.COLOURS;
            }
            return spells("halves", at, behind) ? Rules.HALVES : UNKNOWN;
        }

        private boolean spells(String word, int at, int behind) {
            if (word.length() != behind - at) {
                return false;
            }
            for (int i = 0; i < word.length(); i++) {
                if (byteAt(at + i) != word.charAt(i)) {
                    return false;
                }
            }
            return true;
        }

        private void advance() {
            if (next < MOST_BYTES && token != END) {
                next++;
                token = tokens[next];
            }
        }

        private boolean isNumber() {
            return token < Rules.WORDS;
        }

        private boolean isRuleWord() {
            return token >= Rules.WORDS && token < Rules.WORKS;
        }

        // ---- what ends the reading; each of these answers false then

        private boolean blame(int kind) {
            if (faultKind == 0) {
                faultKind = kind == FAULT_MISPLACED && token == BAD ? FAULT_NO_TOKEN : kind;
                faultPlace = places[next];
            }
            return false;
        }

        private boolean pass(int wanted) {
            if (token != wanted) {
                return blame(FAULT_MISPLACED);
            }
            advance();
            return true;
        }

        private boolean isHouseHere() {
            if (!isNumber()) {
                return blame(FAULT_MISPLACED);
            }
            return draft.town.has(token) || blame(FAULT_BOUNDS);
        }

        // ---- lines

        private boolean readHouses() {
            advance();
            if (!isNumber()) {
                return blame(FAULT_MISPLACED);
            }
            int more = token;
            if (more < 1 || more > MOST_HOUSES) {
                return blame(FAULT_BOUNDS);
            }
            if (draft.town.houses + more > MOST_HOUSES) {
                return blame(FAULT_TOO_MANY);
            }
            for (int i = 0; i < more; i++) {
                draft.town.addHouse(0);
            }
            advance();
            return true;
        }

        private boolean readDoor() {
            advance();
            if (!isHouseHere()) {
                return false;
            }
            int first = token;
            advance();
            if (!isHouseHere()) {
                return false;
            }
            if (token == first || draft.town.linked(first, token)) {
                return blame(FAULT_BOUNDS);
            }
            draft.town.link(first, token);
            advance();
            return true;
        }

        private boolean readRing() {
            advance();
            int members = 0;
            int first = token;
            int last = token;
            for (int many = 0; many <= MOST_HOUSES; many++) {
                if (many >= 3 && !isNumber()) {
                    break;
                }
                if (!isHouseHere()) {
                    return false;
                }
                if ((members & 1 << token) != 0) {
                    return blame(FAULT_BOUNDS);
                }
                members |= 1 << token;
                draft.town.link(last, token);
                last = token;
                advance();
            }
            draft.town.link(last, first);
            return true;
        }

        private boolean readRule() {
            if (draft.rules.number >= MOST_RULES) {
                return blame(FAULT_TOO_MANY);
            }
            advance();
            if (!pass(SIGNS + ':') || !readTruth(0)) {
                return false;
            }
            draft.rules.close();
            return true;
        }

        // ---- truths and sums; depth tells within how many of not [ ( the reading is

        private boolean readTruth(int depth) {
            if (!readBoth(depth)) {
                return false;
            }
            for (int i = 0; i < MOST_BYTES && token == Rules.OR; i++) {
                advance();
                if (!readBoth(depth)) {
                    return false;
                }
                draft.rules.add(Rules.OR);
            }
            return true;
        }

        private boolean readBoth(int depth) {
            if (!readUnit(depth)) {
                return false;
            }
            for (int i = 0; i < MOST_BYTES && token == Rules.AND; i++) {
                advance();
                if (!readUnit(depth)) {
                    return false;
                }
                draft.rules.add(Rules.AND);
            }
            return true;
        }

        private boolean readUnit(int depth) {
            boolean negates = token == Rules.NOT;
            if (!negates && token != SIGNS + '[') {
                return readComparison(depth);
            }
            if (depth >= MOST_WITHIN) {
                return blame(FAULT_TOO_MANY);
            }
            advance();
            if (!negates) {
                return readTruth(depth + 1) && pass(SIGNS + ']');
            }
            if (!readUnit(depth + 1)) {
                return false;
            }
            draft.rules.add(Rules.NOT);
            return true;
        }

        private boolean readComparison(int depth) {
            if (!readSum(depth)) {
                return false;
            }
            int work = comparisonOf(token);
            if (work == NONE) {
                return blame(FAULT_MISPLACED);
            }
            advance();
            if (!readSum(depth)) {
                return false;
            }
            draft.rules.add(work);
            return true;
        }

        private static int comparisonOf(int token) {
            switch (token) {
                case SIGNS + '=':
                    return Rules.SAME;
                case SIGNS + '<':
                    return Rules.BELOW;
                case SIGNS + '>':
                    return Rules.ABOVE;
                default:
                    return NONE;
            }
        }

        private boolean readSum(int depth) {
            if (!readTerm(depth)) {
                return false;
            }
            for (int i = 0; i < MOST_BYTES; i++) {
                boolean adds = token == SIGNS + '+';
                if (!adds && token != SIGNS + '-') {
                    break;
                }
                advance();
                if (!readTerm(depth)) {
                    return false;
                }
                draft.rules.add(adds ? Rules.PLUS : Rules.LESS);
            }
            return true;
        }

        private boolean readTerm(int depth) {
            if (!readAtom(depth)) {
                return false;
            }
            for (int i = 0; i < MOST_BYTES && token == SIGNS + '*'; i++) {
                advance();
                if (!readAtom(depth)) {
                    return false;
                }
                draft.rules.add(Rules.TIMES);
            }
            return true;
        }

        private boolean readAtom(int depth) {
            if (isNumber() || isRuleWord()) {
                draft.rules.add(token);
                advance();
                return true;
            }
            if (token != SIGNS + '(') {
                return blame(FAULT_MISPLACED);
            }
            if (depth >= MOST_WITHIN) {
                return blame(FAULT_TOO_MANY);
            }
            advance();
            return readSum(depth + 1) && pass(SIGNS + ')');
        }
    }

    /** Asks the rules of a town's houses, and tells why a deed can't be. */
    static final class Council {
        // Two for each of not [ ( within one another and some more do; a stack that is full is never seen.
        private static final int STACK = 64;
        private static final int BOUND = 1000000;
        private static final int WORDS = 9;

        private final Painter painter = new Painter();
        private final Town trial = new Town();
        private final int[] stack = new int[STACK];
        private final int[] holding = new int[MOST_RULES];
        // What each word is for each house; what is said of the town stands for its first house.
        private final int[] meanings = new int[WORDS * MOST_HOUSES];
        private Rules rules = new Rules();
        private Town town = new Town();
        private Town asked = trial;
        private int known = 0;
        private boolean surveyed = false;

        void convene(Rules ofTown, Town here) {
            rules = ofTown;
            town = here;
            surveyed = false;
        }

        /** The houses for which a rule holds now, as bits. */
        int holdingNow(int rule) {
            survey();
            return rule >= 0 && rule < MOST_RULES ? holding[rule] : 0;
        }

        private void survey() {
            if (surveyed) {
                return;
            }
            surveyed = true;
            turnTo(town);
            for (int rule = 0; rule < rules.number && rule < MOST_RULES; rule++) {
                findMeanings(rules.uses[rule]);
                holding[rule] = 0;
                for (int h = 0; h < town.houses; h++) {
                    if (standsFor(rule, h)) {
                        holding[rule] |= 1 << h;
                    }
                }
            }
        }

        int reasonAgainstJoin(int a, int b) {
            if (!town.isPair(a, b)) {
                return NO_PAIR;
            }
            if (town.linked(a, b)) {
                return DOOR_IS_THERE;
            }
            if ((town.neighbours(a) & town.neighbours(b)) != 0) {
                return THREE_WOULD_BE;
            }
            if (rules.number == 0) {
                return 0;
            }
            survey();
            trial.become(town);
            trial.link(a, b);
            turnTo(trial);
            return keepsWhatHolds() ? 0 : RULE_WOULD_BREAK;
        }

        int reasonAgainstEntry(int set) {
            if ((set & ~town.all()) != 0) {
                return NO_PAIR;
            }
            if (town.houses >= MOST_HOUSES) {
                return TOWN_IS_FULL;
            }
            if ((town.around(set) & set) != 0) {
                return THREE_WOULD_BE;
            }
            if (rules.number == 0) {
                return 0;
            }
            survey();
            trial.become(town);
            trial.addHouse(set);
            turnTo(trial);
            return suits(town.houses) && keepsWhatHolds() ? 0 : RULE_WOULD_BREAK;
        }

        private boolean suits(int newHouse) {
            for (int rule = 0; rule < rules.number && rule < MOST_RULES; rule++) {
                findMeanings(rules.uses[rule]);
                if (!standsFor(rule, newHouse)) {
                    return false;
                }
            }
            return true;
        }

        private boolean keepsWhatHolds() {
            for (int rule = 0; rule < rules.number && rule < MOST_RULES; rule++) {
                findMeanings(rules.uses[rule]);
                for (int h = 0; h < town.houses; h++) {
                    if ((holding[rule] & 1 << h) != 0 && !standsFor(rule, h)) {
                        return false;
                    }
                }
            }
            return true;
        }

        private void turnTo(Town here) {
            asked = here;
            known = 0;
        }

        // Some words are dear to find, so that each is found once for a town, and only if a rule has it.
        private void findMeanings(int words) {
            int wanted = words & ~known;
            known |= words;
            for (int word = 0; word < WORDS && wanted != 0; word++) {
                if ((wanted & 1 << word) == 0) {
                    continue;
                }
                int at = word * MOST_HOUSES;
                switch (Rules.WORDS + word) {
                    case Rules.HOUSES:
                        meanings[at] = asked.houses;
                        break;
                    case Rules.PAIRS:
                        meanings[at] = asked.doors();
                        break;
                    case Rules.FEAST:
                        meanings[at] = Feasts.mostGuests(asked);
                        break;
                    case Rules.COLOURS:
                        meanings[at] = painter.fewest(asked, asked.all());
                        break;
                    case Rules.HALVES:
                        meanings[at] = asked.firstHalf(asked.all()) == NONE ? 0 : 1;
                        break;
                    default:
                        for (int h = 0; h < asked.houses; h++) {
                            meanings[at + h] = ofHouse(Rules.WORDS + word, h);
                        }
                        break;
                }
            }
        }

        private int ofHouse(int word, int h) {
            switch (word) {
                case Rules.DOORS:
                    return asked.doorsOf(h);
                case Rules.THREES:
                    return asked.threesWith(h);
                case Rules.FOURS:
                    return asked.foursWith(h);
                default:
                    return asked.farthest(h);
            }
        }

        private int meaning(int piece, int h) {
            int at = (piece - Rules.WORDS) * MOST_HOUSES + (piece < Rules.HOUSES ? h : 0);
            return at >= 0 && at < meanings.length ? meanings[at] : 0;
        }

        private boolean standsFor(int rule, int h) {
            if (rule < 0 || rule >= MOST_RULES) {
                return false;
            }
            int end = Math.min(rules.starts[rule + 1], MOST_BYTES);
            int top = 0;
            for (int i = Math.max(rules.starts[rule], 0); i < end; i++) {
                int piece = rules.code[i];
                if (piece < Rules.WORKS) {
                    if (top < STACK) {
                        stack[top] = piece < Rules.WORDS ? piece : meaning(piece, h);
                        top++;
                    }
                } else if (piece == Rules.NOT) {
                    if (top > 0) {
                        stack[top - 1] = 1 - stack[top - 1];
                    }
                } else if (top > 1) {
                    top--;
                    stack[top - 1] = worked(piece, stack[top - 1], stack[top]);
                }
            }
            return top > 0 && stack[0] != 0;
        }

        private static int worked(int work, int a, int b) {
            switch (work) {
                case Rules.PLUS:
                    return kept((long) a + b);
                case Rules.LESS:
                    return kept((long) a - b);
                case Rules.TIMES:
                    return kept((long) a * b);
                case Rules.SAME:
                    return a == b ? 1 : 0;
                case Rules.BELOW:
                    return a < b ? 1 : 0;
                case Rules.ABOVE:
                    return a > b ? 1 : 0;
                case Rules.AND:
                    return a & b;
                default:
                    return a | b;
            }
        }

        private static int kept(long sum) {
            return (int) Math.max(-BOUND, Math.min(BOUND, sum));
        }
    }

    /** Sets of houses no two of which are neighbours. */
    static final class Feasts {
        // For each set of houses all their neighbours.
        private final int[] around = new int[SETS];
        private int all = 0;

        void lay(Town town) {
            all = town.all();
            around[0] = 0;
            for (int h = 0; h < town.houses; h++) {
                int size = 1 << h;
                for (int set = 0; set < size; set++) {
                    around[set + size] = around[set] | town.near[h];
                }
            }
        }

        /** All neighbours of those in a set. */
        int aroundOf(int set) {
            return set >= 0 && set < SETS ? around[set] : 0;
        }

        boolean isFeast(int set) {
            return (aroundOf(set) & set) == 0;
        }

        int howMany() {
            int found = 0;
            for (int set = 0; set <= all; set++) {
                if (isFeast(set)) {
                    found++;
                }
            }
            return found;
        }

        int howManyFull() {
            int found = 0;
            for (int set = 0; set <= all; set++) {
                // The neighbours of the guests are just those who don't come.
                if ((aroundOf(set) ^ set) == all && isFeast(set)) {
                    found++;
                }
            }
            return found;
        }

        /** The largest feast to which those in a set come, of like ones the least as bits. */
        int largest(int guests) {
            int best = 0;
            int most = NONE;
            for (int set = 0; set <= all; set++) {
                if ((set & guests) == guests && Integer.bitCount(set) > most && isFeast(set)) {
                    best = set;
                    most = Integer.bitCount(set);
                }
            }
            return best;
        }

        /** How many are in the largest feast, without a table: rules ask it of many towns. */
        static int mostGuests(Town town) {
            return mostOf(town, town.all(), 0);
        }

        private static int mostOf(Town town, int set, int depth) {
            if (set == 0 || depth > MOST_HOUSES) {
                return 0;
            }
            int busiest = 0;
            int most = NONE;
            int ends = 0;
            for (int h = 0; h < town.houses; h++) {
                if ((set & 1 << h) != 0) {
                    int met = Integer.bitCount(town.near[h] & set);
                    ends += met;
                    if (met > most) {
                        most = met;
                        busiest = h;
                    }
                }
            }
            if (most <= 1) {
                return Integer.bitCount(set) - ends / 2;
            }
            int others = set & ~(1 << busiest);
            int without = mostOf(town, others, depth + 1);
            int with = 1 + mostOf(town, others & ~town.near[busiest], depth + 1);
            return Math.max(with, without);
        }
    }

    /** Colours such that no two neighbours have the same. */
    static final class Painter {
        private static final int LEVELS = MOST_HOUSES + 1;
        // More than all pairs of houses that can be linked and all houses that can be taken away.
        private static final int MOST_TURNS = 100;

        // For each colour those who have it.
        private final int[] wearers = new int[MOST_HOUSES];
        // The neighbours in towns that are made from one another, a level each.
        private final int[] sketch = new int[LEVELS * MOST_HOUSES];
        private Town town = new Town();

        /** The fewest colours for those in a set. */
        int fewest(Town subject, int set) {
            town = subject;
            if (set == 0) {
                return 0;
            }
            if ((town.around(set) & set) == 0) {
                return 1;
            }
            if (town.firstHalf(set) != NONE) {
                return 2;
            }
            for (int colours = 3; colours < MOST_HOUSES; colours++) {
                Arrays.fill(wearers, 0);
                if (paintAll(hardToPaint(set, colours), 0, colours, 0)) {
                    return colours;
                }
            }
            return MOST_HOUSES;
        }

        // Who has fewer neighbours than there are colours can wait till the others have theirs.
        private int hardToPaint(int set, int colours) {
            int left = set;
            for (int turn = 0; turn < MOST_HOUSES; turn++) {
                int before = left;
                for (int h = 0; h < town.houses; h++) {
                    if (Integer.bitCount(town.near[h] & left) < colours) {
                        left &= ~(1 << h);
                    }
                }
                if (left == before) {
                    break;
                }
            }
            return left;
        }

        private boolean paintAll(int left, int used, int colours, int depth) {
            if (left == 0) {
                return true;
            }
            int h = mostBound(left, used);
            if (h == NONE || depth > MOST_HOUSES) {
                return false;
            }
            int rest = left & ~(1 << h);
            for (int c = 0; c <= used && c < colours; c++) {
                if ((wearers[c] & town.near[h]) != 0) {
                    continue;
                }
                wearers[c] |= 1 << h;
                boolean well = paintAll(rest, Math.max(used, c + 1), colours, depth + 1);
                wearers[c] &= ~(1 << h);
                if (well) {
                    return true;
                }
            }
            return false;
        }

        /** Of those in a set that to whom the most colours in use are closed. */
        private int mostBound(int set, int used) {
            int best = NONE;
            int most = NONE;
            for (int h = 0; h < town.houses; h++) {
                if ((set & 1 << h) == 0) {
                    continue;
                }
                int closed = 0;
                for (int c = 0; c < used && c < MOST_HOUSES; c++) {
                    if ((wearers[c] & town.near[h]) != 0) {
                        closed++;
                    }
                }
                if (closed > most) {
                    most = closed;
                    best = h;
                }
            }
            return best;
        }

        /** The colour of a house by the first colours. */
        int firstShade(Town subject, int house) {
            int colours = fewest(subject, subject.all());
            Arrays.fill(wearers, 0);
            paintFrom(0, colours);
            for (int c = 0; c < colours; c++) {
                if ((wearers[c] & 1 << house) != 0) {
                    return c;
                }
            }
            return NONE;
        }

        private boolean paintFrom(int h, int colours) {
            if (h >= town.houses) {
                return true;
            }
            for (int c = 0; c < colours && c < MOST_HOUSES; c++) {
                if ((wearers[c] & town.near[h]) != 0) {
                    continue;
                }
                boolean unused = wearers[c] == 0;
                wearers[c] |= 1 << h;
                if (paintFrom(h + 1, colours)) {
                    return true;
                }
                wearers[c] &= ~(1 << h);
                // All colours that nobody has yet do as little.
                if (unused) {
                    break;
                }
            }
            return false;
        }

        long waysWith(Town subject, int colours) {
            for (int h = 0; h < MOST_HOUSES; h++) {
                sketch[h] = subject.near[h];
            }
            return waysOf(0, subject.all(), colours);
        }

        // Two who are no neighbours either differ, as if they were, or are alike, as if they were one.
        private long waysOf(int level, int houses, int colours) {
            if (level < 0 || level >= LEVELS) {
                return 0;
            }
            int left = houses;
            long total = 0;
            long factor = 1;
            for (int turn = 0; turn < MOST_TURNS && left != 0; turn++) {
                int h = leastLoose(level, left);
                int met = sketched(level, h) & left;
                int loose = looseOf(level, met);
                if (loose == NONE) {
                    factor *= colours - Integer.bitCount(met);
                    if (factor <= 0) {
                        return total;
                    }
                    left &= ~(1 << h);
                } else {
                    int a = loose / MOST_HOUSES;
                    int b = loose % MOST_HOUSES;
                    if (level + 1 < LEVELS) {
                        mergeAbove(level, a, b);
                        total += factor * waysOf(level + 1, left & ~(1 << b), colours);
                    }
                    setSketch(level, a, sketched(level, a) | 1 << b);
                    setSketch(level, b, sketched(level, b) | 1 << a);
                }
            }
            return left == 0 ? total + factor : total;
        }

        private int sketched(int level, int h) {
            int at = level * MOST_HOUSES + h;
            return h >= 0 && at >= 0 && at < sketch.length ? sketch[at] : 0;
        }

        private void setSketch(int level, int h, int set) {
            int at = level * MOST_HOUSES + h;
            if (h >= 0 && at >= 0 && at < sketch.length) {
                sketch[at] = set;
            }
        }

        /** Of those left one whose neighbours are all neighbours of one another, else that with the fewest. */
        private int leastLoose(int level, int left) {
            int best = NONE;
            int fewest = MOST_HOUSES;
            for (int h = 0; h < MOST_HOUSES; h++) {
                if ((left & 1 << h) == 0) {
                    continue;
                }
                int met = sketched(level, h) & left;
                if (looseOf(level, met) == NONE) {
                    return h;
                }
                if (Integer.bitCount(met) < fewest) {
                    fewest = Integer.bitCount(met);
                    best = h;
                }
            }
            return best;
        }

        /** Two in a set who are no neighbours, 11 times the lesser and the other; NONE: all are. */
        private int looseOf(int level, int set) {
            for (int a = 0; a < MOST_HOUSES; a++) {
                if ((set & 1 << a) == 0) {
                    continue;
                }
                int strange = set & ~sketched(level, a) & -2 << a;
                for (int b = a + 1; b < MOST_HOUSES && strange != 0; b++) {
                    if ((strange & 1 << b) != 0) {
                        return MOST_HOUSES * a + b;
                    }
                }
            }
            return NONE;
        }

        private void mergeAbove(int level, int a, int b) {
            int joint = sketched(level, a) | sketched(level, b);
            for (int h = 0; h < MOST_HOUSES; h++) {
                int met = sketched(level, h);
                setSketch(level + 1, h, (joint & 1 << h) != 0 ? met | 1 << a : met);
            }
            setSketch(level + 1, a, joint);
        }
    }

    /** Who tells whom: in how few rounds all know. */
    static final class Gossip {
        private final Feasts sets = new Feasts();
        // For each set of those who know: in so many rounds not all can know.
        private final int[] lost = new int[SETS];
        // For each house those ahead of it who have the same neighbours: of such ones the first is told first.
        private final int[] elders = new int[MOST_HOUSES];
        private Town town = new Town();
        private int goal = 0;

        void listen(Town subject) {
            town = subject;
            sets.lay(town);
            Arrays.fill(lost, 0);
            for (int h = 0; h < town.houses; h++) {
                elders[h] = 0;
                for (int other = 0; other < h; other++) {
                    int both = 1 << h | 1 << other;
                    if ((town.near[h] & ~both) == (town.near[other] & ~both)) {
                        elders[h] |= 1 << other;
                    }
                }
            }
        }

        int bestTeller() {
            int most = 0;
            for (int h = 0; h < town.houses; h++) {
                most = Math.max(most, Integer.bitCount(town.within(h, MOST_HOUSES)));
            }
            int best = NONE;
            int fewest = MOST_HOUSES;
            for (int h = 0; h < town.houses; h++) {
                if (Integer.bitCount(town.within(h, MOST_HOUSES)) == most) {
                    int rounds = roundsFrom(h);
                    if (rounds < fewest) {
                        fewest = rounds;
                        best = h;
                    }
                }
            }
            return best;
        }

        int roundsFrom(int h) {
            goal = town.within(h, MOST_HOUSES);
            for (int rounds = 0; rounds < MOST_HOUSES; rounds++) {
                if (canAllKnow(1 << h, rounds)) {
                    return rounds;
                }
            }
            return MOST_HOUSES;
        }

        private boolean canAllKnow(int known, int rounds) {
            if (known == goal) {
                return true;
            }
            if (known < 0 || known >= SETS || lost[known] >= rounds || !mightAllKnow(known, rounds)) {
                return false;
            }
            if (canTell(known, 0, mostToldAtOnce(known), rounds)) {
                return true;
            }
            lost[known] = rounds;
            return false;
        }

        private boolean mightAllKnow(int known, int rounds) {
            int reach = known;
            for (int i = 0; i < rounds && i < MOST_HOUSES; i++) {
                reach |= sets.aroundOf(reach);
            }
            return reach == goal && Integer.bitCount(known) << rounds >= Integer.bitCount(goal);
        }

        // To tell more is never worse, so that only sets of the most who can be told at once are tried.
        private boolean canTell(int known, int told, int left, int rounds) {
            if (left <= 0) {
                return told != 0 && rounds > 0 && canAllKnow(known | told, rounds - 1);
            }
            for (int h = 0; h < town.houses; h++) {
                if (told >>> h != 0 || !isNext(h, known, told) || !canBeToldToo(h, known, told)) {
                    continue;
                }
                if (canTell(known, told | 1 << h, left - 1, rounds)) {
                    return true;
                }
            }
            return false;
        }

        private boolean isNext(int h, int known, int told) {
            int one = 1 << h;
            return (known & one) == 0 && (sets.aroundOf(known) & one) != 0
                    && (elders[h] & ~known & ~told) == 0;
        }

        private int mostToldAtOnce(int known) {
            int told = 0;
            for (int h = 0; h < town.houses; h++) {
                if ((known & 1 << h) == 0 && canBeToldToo(h, known, told)) {
                    told |= 1 << h;
                }
            }
            return Integer.bitCount(told);
        }

        /** Whether a house can be told beside some who can: no set among them has fewer tellers than it has houses. */
        private boolean canBeToldToo(int h, int known, int told) {
            int some = told;
            for (int i = 0; i < SETS; i++) {
                int listeners = some | 1 << h;
                if (Integer.bitCount(sets.aroundOf(listeners) & known) < Integer.bitCount(listeners)) {
                    return false;
                }
                if (some == 0) {
                    break;
                }
                some = some - 1 & told;
            }
            return true;
        }
    }

    /** Towns that are alike. */
    static final class Kin {
        // For each house, or each new number, that to which it is matched.
        private final int[] match = new int[MOST_HOUSES];
        private Town one = new Town();
        private Town other = new Town();
        private int least = 0;

        int leastNumber(Town town) {
            one = town;
            least = NONE;
            numberFrom(0, 0, 0);
            return least;
        }

        private void numberFrom(int next, int taken, int bits) {
            if (next >= one.houses || next >= MARK_MOST) {
                least = least == NONE ? bits : Math.min(least, bits);
                return;
            }
            for (int h = 0; h < one.houses; h++) {
                if ((taken & 1 << h) == 0) {
                    match[next] = h;
                    int first = next * (next - 1) / 2;
                    numberFrom(next + 1, taken | 1 << h, bits | rowOf(next, h) << first);
                }
            }
        }

        private int rowOf(int next, int h) {
            int row = 0;
            for (int i = 0; i < next; i++) {
                if (one.linked(match[i], h)) {
                    row |= 1 << i;
                }
            }
            return row;
        }

        boolean canBeMatched(Town a, Town b) {
            one = a;
            other = b;
            return a.houses == b.houses && a.doors() == b.doors() && matchFrom(0, 0);
        }

        // In how many ways all can be is, for each house, to how many it can go while those ahead of it stay.
        int matchesToItself(Town town) {
            one = town;
            other = town;
            int ways = 1;
            for (int h = 0; h < town.houses; h++) {
                int goes = 1;
                for (int to = h + 1; to < town.houses; to++) {
                    if (fits(h, to)) {
                        match[h] = to;
                        goes += matchFrom(h + 1, (1 << h) - 1 | 1 << to) ? 1 : 0;
                    }
                }
                match[h] = h;
                ways *= goes;
            }
            return ways;
        }

        private boolean matchFrom(int h, int taken) {
            if (h >= one.houses) {
                return true;
            }
            for (int to = 0; to < other.houses; to++) {
                if ((taken & 1 << to) == 0 && fits(h, to)) {
                    match[h] = to;
                    if (matchFrom(h + 1, taken | 1 << to)) {
                        return true;
                    }
                }
            }
            return false;
        }

        private boolean fits(int h, int to) {
            if (one.doorsOf(h) != other.doorsOf(to)) {
                return false;
            }
            for (int i = 0; i < h; i++) {
                if (one.linked(i, h) != other.linked(match[i], to)) {
                    return false;
                }
            }
            return true;
        }
    }

    /** The fewest walls by which there is no three. */
    static final class Healer {
        private static final int LAST_PAIR = MOST_HOUSES * (MOST_HOUSES - 1) / 2 - 1;

        private final Town patient = new Town();
        // The walls as bits, those first in order highest: of as many the first row is the greatest number.
        private long best = NONE;

        /** How many walls, or one more than can be told. */
        int fewestWalls(Town town) {
            patient.become(town);
            for (int walls = 0; walls <= CURE_MOST; walls++) {
                best = NONE;
                heal(walls, 0L);
                if (best != NONE) {
                    return walls;
                }
            }
            return CURE_MOST + 1;
        }

        private void heal(int left, long walls) {
            int three = patient.threeAt(0);
            if (three == NONE) {
                best = Math.max(best, walls);
                return;
            }
            if (left <= 0) {
                return;
            }
            int a = three / 10000;
            int b = three / 100 % 100;
            int c = three % 100;
            healBy(a, b, left, walls);
            healBy(a, c, left, walls);
            healBy(b, c, left, walls);
        }

        private void healBy(int a, int b, int left, long walls) {
            patient.part(a, b);
            heal(left - 1, walls | bitOf(a, b));
            patient.link(a, b);
        }

        private static long bitOf(int a, int b) {
            int place = a * (2 * MOST_HOUSES - a - 1) / 2 + b - a - 1;
            return 1L << LAST_PAIR - place;
        }

        /** The k-th wall of the latest cure, 100 times the lesser house and the other one. */
        int wallAt(int k) {
            int left = k;
            for (int a = 0; a < patient.houses; a++) {
                for (int b = a + 1; b < patient.houses; b++) {
                    if ((best & bitOf(a, b)) == 0) {
                        continue;
                    }
                    if (left == 0) {
                        return 100 * a + b;
                    }
                    left--;
                }
            }
            return NONE;
        }
    }

    /** What each house has of its doors, and where a town comes to rest. */
    static final class Market {
        final Town scene = new Town();
        private final Town trial = new Town();

        void visit(Town town) {
            scene.become(town);
        }

        /** Pay ahead of what doors cost. */
        int worth(Town town, int h) {
            return 10 * town.doorsOf(h) + 4 * Integer.bitCount(town.twoStepsFrom(h));
        }

        /** The door to be walled or the pair to join next, 100 times the lesser house and the other; NONE at rest. */
        int nextChange(Rules rules, Council council, int cost) {
            for (int a = 0; a < scene.houses; a++) {
                for (int b = a + 1; b < scene.houses; b++) {
                    if (scene.linked(a, b) && lossByWall(a, b) < cost) {
                        return 100 * a + b;
                    }
                }
            }
            council.convene(rules, scene);
            for (int a = 0; a < scene.houses; a++) {
                for (int b = a + 1; b < scene.houses; b++) {
                    if (!scene.linked(a, b) && lureToJoin(a, b) >= cost
                            && council.reasonAgainstJoin(a, b) == 0) {
                        return 100 * a + b;
                    }
                }
            }
            return NONE;
        }

        int leastCostOfRest(Rules rules, Council council) {
            council.convene(rules, scene);
            int highestLure = NONE;
            int leastLoss = COST_MOST;
            for (int a = 0; a < scene.houses; a++) {
                for (int b = a + 1; b < scene.houses; b++) {
                    if (scene.linked(a, b)) {
                        leastLoss = Math.min(leastLoss, lossByWall(a, b));
                    } else if (lureToJoin(a, b) > highestLure && council.reasonAgainstJoin(a, b) == 0) {
                        highestLure = lureToJoin(a, b);
                    }
                }
            }
            return highestLure < leastLoss ? highestLure + 1 : NONE;
        }

        /** What that of both who loses less loses by a wall, ahead of the cost that it saves. */
        private int lossByWall(int a, int b) {
            trial.become(scene);
            trial.part(a, b);
            return Math.min(worth(scene, a) - worth(trial, a), worth(scene, b) - worth(trial, b));
        }

        /** The highest cost by which both would join: one gains more than it, the other at least as much. */
        private int lureToJoin(int a, int b) {
            trial.become(scene);
            trial.link(a, b);
            int gainA = worth(trial, a) - worth(scene, a);
            int gainB = worth(trial, b) - worth(scene, b);
            return gainA == gainB ? gainA - 1 : Math.min(gainA, gainB);
        }
    }
}
