/**
 * A spring shared by its heat: hot water goes down through a lane of houses,
 * each of which takes heat and gives back water.
 */
public final class HeatDown {
    public static final int NONE = -6, UNKNOWN = -1, OUTSIDE = -2, STATE = -3, FULL = -4, NO = -5;

    private static final int HOUR_COUNT = 6;
    private static final int KIND_COUNT = 6;
    private static final int MAX_HOUSES = 8;
    private static final int MAX_ORDERED = 7;
    private static final int MAX_BROOKS = 4;
    private static final int MAX_BROOK_SETS = 16;
    private static final int MAX_SIGNS = 48;
    private static final int MAX_FELT = 6;
    private static final int MAX_TENTHS = 1000;
    private static final int MAX_SEED = 9999;
    private static final int MAX_DAYS = 30;
    private static final int IMAGE_COUNT = 2;

    private static final int FLOW = 0, WARMTH = 1, AIR = 2, BROOK = 3, COLD = 4;
    private static final int NEED = 0, MOST = 1, WANT = 2, WORTH = 3, HOURS = 4;

    private static final int[] SPRING_FIRST = {20, 800, 100, 5, 80};
    private static final int[] SPRING_LOW = {1, 0, 0, 1, 0};
    private static final int[] SPRING_HIGH = {50, 1000, 300, 30, 300};
    /** Six kinds after one another for each of NEED, MOST, WANT, WORTH, HOURS. */
    private static final int[] KIND_FIRST = {
        380, 600, 650, 150, 200, 500,
        1000, 1000, 1000, 350, 300, 1000,
        600, 1000, 900, 200, 100, 1200,
        5, 8, 9, 3, 6, 4,
        63, 63, 63, 63, 63, 63};
    private static final int[] KIND_HIGH = {1000, 1000, 9999, 99, 63};
    private static final int[] KIND_SIGNS = {'b', 'd', 'r', 'c', 'h', 'l'};

    private final Pad pad = new Pad();
    private final Valley now = new Valley();
    private final Valley imageZero = new Valley();
    private final Valley imageOne = new Valley();
    /** Bit n: image n was kept. */
    private int keptImages = 0;

    // Scratch, made once because nothing that a call makes is ever given back.
    private final Course course = new Course(now);
    private final PlanSearch plans = new PlanSearch(now);
    private final OrderSearch orders = new OrderSearch(now);
    private final int[] fitting = new int[MAX_BROOK_SETS];
    private final int[] fittingTenths = new int[MAX_BROOK_SETS * MAX_HOUSES];

    public HeatDown() {
        now.lane.addHouse(0, 0, false);
    }

    // ---- 1 springs, kinds, lanes

    public int spring(int which, int v) {
        if (which < FLOW || which > COLD) {
            return UNKNOWN;
        }
        if (v < cell(SPRING_LOW, which) || v > cell(SPRING_HIGH, which)) {
            return OUTSIDE;
        }
        return exchange(now.springValues, which, v);
    }

    public int kind(int kind, int what, int v) {
        if (isNoKind(kind)) {
            return UNKNOWN;
        }
        if (what < NEED || what > HOURS || v < 0 || v > cell(KIND_HIGH, what)) {
            return OUTSIDE;
        }
        return exchange(now.kindValues, what * KIND_COUNT + kind, v);
    }

    public int say(int sign) {
        if (sign < 33 || sign > 126) {
            return OUTSIDE;
        }
        return pad.addSign(sign) ? pad.count : FULL;
    }

    public int wipe() {
        return pad.clear();
    }

    public int fault(int how) {
        if (how == 0) {
            return pad.readLane();
        }
        return how == 1 ? pad.readDay(now.lane) : OUTSIDE;
    }

    public int lane() {
        if (pad.readLane() != NONE) {
            return NO;
        }
        now.lane.copyOf(pad.laneRead);
        now.felt.clear();
        pad.clear();
        return now.lane.houses;
    }

    public int house(int house, int what) {
        if (isNoHouse(house)) {
            return UNKNOWN;
        }
        switch (what) {
            case 0: return now.lane.kindOf(house);
            case 1: return now.lane.lossAheadOf(house);
            case 2: return now.lane.brookAheadOf(house);
            default: return OUTSIDE;
        }
    }

    // ---- 2 hours

    public int at(int hour, int brooks, int draws, int house, int what) {
        if (house < 0 || house > now.lane.houses) {
            return UNKNOWN;
        }
        if (isNoHour(hour) || areNoBrooks(brooks) || areNoDraws(draws) || what < 0 || what > 1) {
            return OUTSIDE;
        }
        course.follow(now.springValue(WARMTH), hour, brooks, draws);
        return what == 0 ? course.litresAt(house) : course.heatAt(house);
    }

    public int run(int hour, int brooks, int draws, int what) {
        if (isNoHour(hour) || areNoBrooks(brooks) || areNoDraws(draws)) {
            return OUTSIDE;
        }
        course.follow(now.springValue(WARMTH), hour, brooks, draws);
        switch (what) {
            case 0: return course.served;
            case 1: return course.harmed;
            case 2: return course.lost;
            case 3: return course.taken;
            default: return OUTSIDE;
        }
    }

    public int judge(int what) {
        if (what < 0 || what > 1) {
            return OUTSIDE;
        }
        if (pad.readDay(now.lane) != NONE) {
            return NO;
        }
        for (int hour = 0; hour < HOUR_COUNT; hour++) {
            course.follow(now.springValue(WARMTH), hour, pad.brooksIn(hour), pad.drawsIn(hour));
            if (course.wronged != 0) {
                return what == 0 ? hour : lowestBit(course.wronged);
            }
        }
        return NONE;
    }

    public int best(int hour, int what) {
        if (isNoHour(hour) || what < 0 || what > 2) {
            return OUTSIDE;
        }
        planAsItIs(hour);
        if (plans.worth == NONE || what == 0) {
            return plans.worth;
        }
        return what == 1 ? plans.bestBrooks : plans.bestDraws;
    }

    // ---- 3 pipes, springs that cool, new houses

    public int moss(int hour, int k, int what) {
        if (isNoHour(hour) || k < 0 || k > MAX_HOUSES || what < 0 || what > 1) {
            return OUTSIDE;
        }
        int found = searchMoss(hour, k);
        return what == 0 ? found : plans.worth;
    }

    public int cools(int hour, int brooks, int draws) {
        if (isNoHour(hour) || areNoBrooks(brooks) || areNoDraws(draws)) {
            return OUTSIDE;
        }
        for (int warmth = 0; warmth <= MAX_TENTHS; warmth++) {
            course.follow(warmth, hour, brooks, draws);
            if (course.wronged == 0) {
                return warmth;
            }
        }
        return NONE;
    }

    public int put(int hour, int kind, int place) {
        if (isNoKind(kind) || place < 0 || place > now.lane.houses) {
            return UNKNOWN;
        }
        if (isNoHour(hour)) {
            return OUTSIDE;
        }
        if (now.lane.isFull()) {
            return FULL;
        }
        plans.forgetPlans();
        plans.trial.copyOf(now.lane);
        plans.trial.insertHouse(kind, place);
        plans.improve(hour);
        return plans.worth;
    }

    public int where(int hour, int kind, int what) {
        if (isNoKind(kind)) {
            return UNKNOWN;
        }
        if (isNoHour(hour) || what < 0 || what > 1) {
            return OUTSIDE;
        }
        if (now.lane.isFull()) {
            return FULL;
        }
        int found = searchPlace(hour, kind);
        return what == 0 ? found : plans.worth;
    }

    public int order(int hour, int i) {
        if (isNoHour(hour) || i < -1 || i >= now.lane.houses) {
            return OUTSIDE;
        }
        if (now.lane.houses > MAX_ORDERED) {
            return FULL;
        }
        orders.search(hour);
        if (orders.worth == NONE || i == -1) {
            return orders.worth;
        }
        return cell(orders.bestOrder, i);
    }

    // ---- 4 feeling, winters

    public int felt(int house, int low, int high) {
        if (isNoHouse(house)) {
            return UNKNOWN;
        }
        if (low < 0 || high > MAX_TENTHS || low > high) {
            return OUTSIDE;
        }
        return now.felt.add(house, low, high) ? now.felt.count : FULL;
    }

    public int forget() {
        return now.felt.clear();
    }

    public int fits(int hour, int draws, int i) {
        if (isNoHour(hour) || areNoDraws(draws)) {
            return OUTSIDE;
        }
        int count = gatherFitting(hour, draws);
        if (i == -1) {
            return count;
        }
        return i >= 0 && i < count ? cell(fitting, i) : NONE;
    }

    public int door(int hour, int draws, int what) {
        if (isNoHour(hour) || areNoDraws(draws) || what < 0 || what > 1) {
            return OUTSIDE;
        }
        int count = gatherFitting(hour, draws);
        if (count == 0) {
            return NONE;
        }
        int found = 0;
        int fewest = mostAlike(0, count);
        for (int house = 1; house < now.lane.houses; house++) {
            int alike = mostAlike(house, count);
            if (alike < fewest) {
                fewest = alike;
                found = house;
            }
        }
        return what == 0 ? found : fewest;
    }

    public int winter(int seed, int days, int what) {
        if (seed < 0 || seed > MAX_SEED || days < 1 || days > MAX_DAYS || what < 0 || what > 1) {
            return OUTSIDE;
        }
        int sum = 0;
        for (int hour = 0; hour < HOUR_COUNT; hour++) {
            // The warmth told is the same on all days, and so is the hour's plan.
            planAsItIs(hour);
            int brooks = plans.worth == NONE ? 0 : plans.bestBrooks;
            int draws = plans.worth == NONE ? 0 : plans.bestDraws;
            int x = seed;
            for (int day = 0; day < days; day++) {
                x = (75 * x + 74) % 65537;
                course.follow(Math.max(0, now.springValue(WARMTH) - x % 200), hour, brooks, draws);
                sum += what == 0 ? course.worthOfServed() : Integer.bitCount(course.harmed);
            }
        }
        return sum;
    }

    public int image(int n) {
        if (n < 0 || n >= IMAGE_COUNT) {
            return OUTSIDE;
        }
        imageOf(n).copyOf(now);
        keptImages |= 1 << n;
        return 1;
    }

    public int restore(int n) {
        if (n < 0 || n >= IMAGE_COUNT) {
            return OUTSIDE;
        }
        if (!hasBit(keptImages, n)) {
            return STATE;
        }
        now.copyOf(imageOf(n));
        return 1;
    }

    public int told(int what) {
        if (what >= 10 && what <= 14) {
            return now.springValue(what - 10);
        }
        if (what >= 20 && what <= 69) {
            int kind = what % 10;
            return isNoKind(kind) ? OUTSIDE : now.kindValue(what / 10 - 2, kind);
        }
        switch (what) {
            case 0: return pad.count;
            case 1: return now.lane.houses;
            case 2: return now.lane.brooks;
            case 3: return now.felt.count;
            default: return OUTSIDE;
        }
    }

    // ---- what calls share

    private static boolean isNoHour(int hour) {
        return hour < 0 || hour >= HOUR_COUNT;
    }

    private static boolean isNoKind(int kind) {
        return kind < 0 || kind >= KIND_COUNT;
    }

    private boolean isNoHouse(int house) {
        return house < 0 || house >= now.lane.houses;
    }

    private boolean areNoBrooks(int brooks) {
        return brooks < 0 || brooks >= now.lane.brookSets();
    }

    private boolean areNoDraws(int draws) {
        return draws < 0 || draws >= now.lane.houseSets();
    }

    private Valley imageOf(int n) {
        return n == 0 ? imageZero : imageOne;
    }

    private void planAsItIs(int hour) {
        plans.forgetPlans();
        plans.trial.copyOf(now.lane);
        plans.improve(hour);
    }

    /** The set of pipes; NONE if no set has a plan. Leaves its worth in plans. */
    private int searchMoss(int hour, int k) {
        int found = NONE;
        int pipes = now.lane.pipeBits();
        int most = Math.min(k, Integer.bitCount(pipes));
        plans.forgetPlans();
        // Fewer pipes come first: then a later set has to be worth more.
        for (int size = 0; size <= most; size++) {
            for (int set = 0; set < now.lane.houseSets(); set++) {
                if ((set & ~pipes) == 0 && Integer.bitCount(set) == size) {
                    plans.trial.copyOf(now.lane);
                    plans.trial.coverPipes(set);
                    if (plans.improve(hour)) {
                        found = set;
                    }
                }
            }
        }
        return found;
    }

    /** The place for a new house; NONE if no place has a plan. Leaves its worth in plans. */
    private int searchPlace(int hour, int kind) {
        int found = NONE;
        plans.forgetPlans();
        for (int place = 0; place <= now.lane.houses; place++) {
            plans.trial.copyOf(now.lane);
            plans.trial.insertHouse(kind, place);
            if (plans.improve(hour)) {
                found = place;
            }
        }
        return found;
    }

    /** Leaves the sets of brooks that fit, and what each would feel like, in rows. */
    private int gatherFitting(int hour, int draws) {
        int count = 0;
        for (int brooks = 0; brooks < now.lane.brookSets(); brooks++) {
            course.follow(now.springValue(WARMTH), hour, brooks, draws);
            if (now.felt.fitsTo(course)) {
                setCell(fitting, count, brooks);
                for (int house = 0; house < now.lane.houses; house++) {
                    setCell(fittingTenths, count * MAX_HOUSES + house, course.tenthsAt(house));
                }
                count++;
            }
        }
        return count;
    }

    private int mostAlike(int house, int count) {
        int most = 0;
        for (int set = 0; set < count; set++) {
            int tenths = cell(fittingTenths, set * MAX_HOUSES + house);
            int alike = 0;
            for (int other = 0; other < count; other++) {
                if (cell(fittingTenths, other * MAX_HOUSES + house) == tenths) {
                    alike++;
                }
            }
            most = Math.max(most, alike);
        }
        return most;
    }

    // ---- rows and bits

    private static int cell(int[] row, int i) {
        return i >= 0 && i < row.length ? row[i] : 0;
    }

    private static void setCell(int[] row, int i, int v) {
        if (i >= 0 && i < row.length) {
            row[i] = v;
        }
    }

    private static int exchange(int[] row, int i, int v) {
        int old = cell(row, i);
        setCell(row, i, v);
        return old;
    }

    private static void copyRow(int[] from, int[] to) {
        for (int i = 0; i < from.length && i < to.length; i++) {
            to[i] = from[i];
        }
    }

    private static boolean hasBit(int bits, int i) {
        return i >= 0 && i < 32 && (bits >> i & 1) != 0;
    }

    private static int lowestBit(int bits) {
        for (int i = 0; i < 32; i++) {
            if (hasBit(bits, i)) {
                return i;
            }
        }
        return NONE;
    }

    /** Houses from above, each with the loss of the pipe and the number of the brook ahead of it. */
    private static final class Lane {
        int houses = 0;
        int brooks = 0;
        private final int[] kinds = new int[MAX_HOUSES];
        private final int[] losses = new int[MAX_HOUSES];
        private final int[] brookNumbers = new int[MAX_HOUSES];

        int kindOf(int house) {
            return cell(kinds, house);
        }

        int lossAheadOf(int house) {
            return cell(losses, house);
        }

        int brookAheadOf(int house) {
            return cell(brookNumbers, house);
        }

        boolean isFull() {
            return houses >= MAX_HOUSES;
        }

        int houseSets() {
            return 1 << houses;
        }

        int brookSets() {
            return 1 << brooks;
        }

        int pipeBits() {
            int bits = 0;
            for (int house = 0; house < houses; house++) {
                if (lossAheadOf(house) > 0) {
                    bits |= 1 << house;
                }
            }
            return bits;
        }

        void clear() {
            houses = 0;
            brooks = 0;
        }

        void addHouse(int kind, int loss, boolean brook) {
            if (isFull()) {
                return;
            }
            setCell(kinds, houses, kind);
            setCell(losses, houses, loss);
            setCell(brookNumbers, houses, brook ? brooks : NONE);
            houses++;
            if (brook) {
                brooks++;
            }
        }

        /** Brooks keep their numbers, since the new house brings none. */
        void insertHouse(int kind, int place) {
            if (isFull()) {
                return;
            }
            for (int house = houses; house > place; house--) {
                setCell(kinds, house, cell(kinds, house - 1));
                setCell(losses, house, cell(losses, house - 1));
                setCell(brookNumbers, house, cell(brookNumbers, house - 1));
            }
            setCell(kinds, place, kind);
            setCell(losses, place, 0);
            setCell(brookNumbers, place, NONE);
            houses++;
        }

        void coverPipes(int set) {
            for (int house = 0; house < houses; house++) {
                if (hasBit(set, house)) {
                    setCell(losses, house, 0);
                }
            }
        }

        void copyOf(Lane other) {
            houses = other.houses;
            brooks = other.brooks;
            copyRow(other.kinds, kinds);
            copyRow(other.losses, losses);
            copyRow(other.brookNumbers, brookNumbers);
        }
    }

    /** What was felt at doors. */
    private static final class Felt {
        int count = 0;
        private final int[] houses = new int[MAX_FELT];
        private final int[] lows = new int[MAX_FELT];
        private final int[] highs = new int[MAX_FELT];

        boolean add(int house, int low, int high) {
            if (count >= MAX_FELT) {
                return false;
            }
            setCell(houses, count, house);
            setCell(lows, count, low);
            setCell(highs, count, high);
            count++;
            return true;
        }

        int clear() {
            int old = count;
            count = 0;
            return old;
        }

        boolean fitsTo(Course course) {
            for (int i = 0; i < count; i++) {
                int tenths = course.tenthsAt(cell(houses, i));
                if (tenths < cell(lows, i) || tenths > cell(highs, i)) {
                    return false;
                }
            }
            return true;
        }

        void copyOf(Felt other) {
            count = other.count;
            copyRow(other.houses, houses);
            copyRow(other.lows, lows);
            copyRow(other.highs, highs);
        }
    }

    /** All that an image keeps, and the rules by which water meets pipes, brooks and houses. */
    private static final class Valley {
        final int[] springValues = SPRING_FIRST.clone();
        final int[] kindValues = KIND_FIRST.clone();
        final Lane lane = new Lane();
        final Felt felt = new Felt();

        int springValue(int which) {
            return cell(springValues, which);
        }

        int kindValue(int what, int kind) {
            return cell(kindValues, what * KIND_COUNT + kind);
        }

        boolean isWanting(int kind, int hour) {
            return hasBit(kindValue(HOURS, kind), hour);
        }

        int heatBehindPipe(int loss, int litres, int heat) {
            int floor = springValue(AIR) * litres;
            return heat < floor ? heat : Math.max(heat - 10 * loss * litres, floor);
        }

        boolean isHarmed(int kind, int litres, int heat) {
            return heat > kindValue(MOST, kind) * litres;
        }

        /** Whether a house that draws and is not harmed is served. */
        boolean isServed(int kind, int hour, int litres, int heat) {
            return hasBit(kindValue(HOURS, kind), hour)
                && heat >= kindValue(NEED, kind) * litres
                && heat - kindValue(WANT, kind) >= springValue(AIR) * litres;
        }

        void copyOf(Valley other) {
            copyRow(other.springValues, springValues);
            copyRow(other.kindValues, kindValues);
            lane.copyOf(other.lane);
            felt.copyOf(other.felt);
        }
    }

    /** The signs said so far, and the lane or day that was last read from them. */
    private static final class Pad {
        int count = 0;
        final Lane laneRead = new Lane();
        private final int[] signs = new int[MAX_SIGNS];
        private final int[] dayBrooks = new int[HOUR_COUNT];
        private final int[] dayDraws = new int[HOUR_COUNT];

        boolean addSign(int sign) {
            if (count >= MAX_SIGNS) {
                return false;
            }
            setCell(signs, count, sign);
            count++;
            return true;
        }

        int clear() {
            int old = count;
            count = 0;
            return old;
        }

        int brooksIn(int hour) {
            return cell(dayBrooks, hour);
        }

        int drawsIn(int hour) {
            return cell(dayDraws, hour);
        }

        /** The fault; NONE if laneRead is the lane told. */
        int readLane() {
            int loss = 0;
            boolean brook = false;
            laneRead.clear();
            for (int i = 0; i < count; i++) {
                int sign = cell(signs, i);
                int kind = kindBySign(sign);
                if (laneRead.isFull()) {
                    return i;
                }
                if (kind != NONE) {
                    laneRead.addHouse(kind, loss, brook);
                    loss = 0;
                    brook = false;
                } else if (sign >= '1' && sign <= '9' && loss == 0 && !brook) {
                    loss = sign - '0';
                } else if (sign == '*' && !brook && laneRead.brooks < MAX_BROOKS) {
                    brook = true;
                } else {
                    return i;
                }
            }
            return laneRead.houses == 0 || loss > 0 || brook ? count : NONE;
        }

        /** The fault; NONE if the rows of the day hold the day told. */
        int readDay(Lane lane) {
            int hour = 0;
            int brooks = 0;
            int draws = 0;
            for (int i = 0; i < count; i++) {
                int sign = cell(signs, i);
                int brook = sign - '1';
                int house = sign - 'A';
                if (sign == '/' && hour < HOUR_COUNT - 1) {
                    keepHour(hour, brooks, draws);
                    hour++;
                    brooks = 0;
                    draws = 0;
                } else if (brook >= 0 && brook < lane.brooks && !hasBit(brooks, brook)) {
                    brooks |= 1 << brook;
                } else if (house >= 0 && house < lane.houses && !hasBit(draws, house)) {
                    draws |= 1 << house;
                } else {
                    return i;
                }
            }
            keepHour(hour, brooks, draws);
            return hour < HOUR_COUNT - 1 ? count : NONE;
        }

        private void keepHour(int hour, int brooks, int draws) {
            setCell(dayBrooks, hour, brooks);
            setCell(dayDraws, hour, draws);
        }

        private static int kindBySign(int sign) {
            for (int kind = 0; kind < KIND_COUNT; kind++) {
                if (cell(KIND_SIGNS, kind) == sign) {
                    return kind;
                }
            }
            return NONE;
        }
    }

    /** The water of one hour on its way down the lane. */
    private static final class Course {
        int served = 0;
        int harmed = 0;
        /** Houses that are harmed, or draw and are not served. */
        int wronged = 0;
        int lost = 0;
        int taken = 0;
        private final Valley valley;
        private final int[] litresRow = new int[MAX_HOUSES + 1];
        private final int[] heatRow = new int[MAX_HOUSES + 1];

        Course(Valley valley) {
            this.valley = valley;
        }

        int litresAt(int house) {
            return cell(litresRow, house);
        }

        int heatAt(int house) {
            return cell(heatRow, house);
        }

        int tenthsAt(int house) {
            int litres = litresAt(house);
            return litres > 0 ? heatAt(house) / litres : 0;
        }

        void follow(int warmth, int hour, int brooks, int draws) {
            Lane lane = valley.lane;
            int litres = valley.springValue(FLOW);
            int heat = litres * warmth;
            served = 0;
            harmed = 0;
            lost = 0;
            taken = 0;
            for (int house = 0; house < lane.houses; house++) {
                int behind = valley.heatBehindPipe(lane.lossAheadOf(house), litres, heat);
                lost += heat - behind;
                heat = behind;
                if (hasBit(brooks, lane.brookAheadOf(house))) {
                    litres += valley.springValue(BROOK);
                    heat += valley.springValue(BROOK) * valley.springValue(COLD);
                }
                setCell(litresRow, house, litres);
                setCell(heatRow, house, heat);
                heat -= meetHouse(house, hour, litres, heat, hasBit(draws, house));
            }
            setCell(litresRow, lane.houses, litres);
            setCell(heatRow, lane.houses, heat);
            wronged = harmed | (draws & ~served);
        }

        /** The heat that the house takes. */
        private int meetHouse(int house, int hour, int litres, int heat, boolean draws) {
            int kind = valley.lane.kindOf(house);
            if (valley.isHarmed(kind, litres, heat)) {
                harmed |= 1 << house;
                return 0;
            }
            if (!draws || !valley.isServed(kind, hour, litres, heat)) {
                return 0;
            }
            served |= 1 << house;
            taken += valley.kindValue(WANT, kind);
            return valley.kindValue(WANT, kind);
        }

        int worthOfServed() {
            int sum = 0;
            for (int house = 0; house < valley.lane.houses; house++) {
                if (hasBit(served, house)) {
                    sum += valley.kindValue(WORTH, valley.lane.kindOf(house));
                }
            }
            return sum;
        }
    }

    /** The search for the best plan of an hour, in a lane that may differ from the valley's. */
    private static final class PlanSearch {
        final Lane trial = new Lane();
        /** NONE as long as there is no plan. */
        int worth = NONE;
        int bestBrooks = NONE;
        int bestDraws = 0;
        private final Valley valley;
        private int hour = 0;
        private int brooks = 0;
        /** What all houses from one on could be worth. */
        private final int[] worthBehind = new int[MAX_HOUSES + 1];

        PlanSearch(Valley valley) {
            this.valley = valley;
        }

        void forgetPlans() {
            worth = NONE;
            bestBrooks = NONE;
            bestDraws = 0;
        }

        /** Whether the trial lane has a plan worth more than what was found before. */
        boolean improve(int hour) {
            int before = worth;
            int litres = valley.springValue(FLOW);
            this.hour = hour;
            bestBrooks = NONE;
            sumWorthBehind();
            for (int set = 0; set < trial.brookSets(); set++) {
                brooks = set;
                descend(this, 0, litres, litres * valley.springValue(WARMTH), 0, 0);
            }
            return worth > before;
        }

        private void sumWorthBehind() {
            int sum = 0;
            setCell(worthBehind, trial.houses, 0);
            for (int house = trial.houses - 1; house >= 0; house--) {
                int kind = trial.kindOf(house);
                if (valley.isWanting(kind, hour)) {
                    sum += valley.kindValue(WORTH, kind);
                }
                setCell(worthBehind, house, sum);
            }
        }

        /** Draws alone decide among equals, since sets of brooks come from the least on. */
        private boolean mayWin(int hope) {
            return hope > worth || (hope == worth && brooks == bestBrooks);
        }

        private void offer(int draws, int gained) {
            if (gained > worth || (gained == worth && brooks == bestBrooks && draws < bestDraws)) {
                worth = gained;
                bestBrooks = brooks;
                bestDraws = draws;
            }
        }

        /** Ends at the last house: eight levels at most. */
        private static void descend(PlanSearch s, int house, int litres, int heat, int draws, int gained) {
            if (house >= s.trial.houses || house >= MAX_HOUSES) {
                s.offer(draws, gained);
                return;
            }
            if (!s.mayWin(gained + cell(s.worthBehind, house))) {
                return;
            }
            Valley valley = s.valley;
            int f = litres;
            int q = valley.heatBehindPipe(s.trial.lossAheadOf(house), litres, heat);
            if (hasBit(s.brooks, s.trial.brookAheadOf(house))) {
                f += valley.springValue(BROOK);
                q += valley.springValue(BROOK) * valley.springValue(COLD);
            }
            int kind = s.trial.kindOf(house);
            if (valley.isHarmed(kind, f, q)) {
                return;
            }
            if (valley.isServed(kind, s.hour, f, q)) {
                descend(s, house + 1, f, q - valley.kindValue(WANT, kind), draws | 1 << house,
                    gained + valley.kindValue(WORTH, kind));
            }
            descend(s, house + 1, f, q, draws, gained);
        }
    }

    /** The search for the best order of the valley's houses. */
    private static final class OrderSearch {
        /** NONE as long as somebody is harmed in every order. */
        int worth = NONE;
        final int[] bestOrder = new int[MAX_ORDERED];
        private final Valley valley;
        private final int[] chosen = new int[MAX_ORDERED];
        private int hour = 0;

        OrderSearch(Valley valley) {
            this.valley = valley;
        }

        void search(int hour) {
            this.hour = hour;
            worth = NONE;
            descend(this, 0, 0, valley.springValue(FLOW) * valley.springValue(WARMTH), 0);
        }

        /** What the houses that are not yet placed could be worth. */
        private int worthLeft(int placed) {
            int sum = 0;
            for (int house = 0; house < valley.lane.houses; house++) {
                int kind = valley.lane.kindOf(house);
                if (!hasBit(placed, house) && valley.isWanting(kind, hour)) {
                    sum += valley.kindValue(WORTH, kind);
                }
            }
            return sum;
        }

        /** Ends at the last place: seven levels at most. */
        private static void descend(OrderSearch s, int place, int placed, int heat, int gained) {
            Valley valley = s.valley;
            // An equal comes later by numbers, so that only more will do.
            if (gained + s.worthLeft(placed) <= s.worth) {
                return;
            }
            if (place >= valley.lane.houses || place >= MAX_ORDERED) {
                s.worth = gained;
                copyRow(s.chosen, s.bestOrder);
                return;
            }
            int litres = valley.springValue(FLOW);
            int q = valley.heatBehindPipe(valley.lane.lossAheadOf(place), litres, heat);
            for (int house = 0; house < valley.lane.houses; house++) {
                int kind = valley.lane.kindOf(house);
                if (!hasBit(placed, house) && !valley.isHarmed(kind, litres, q)) {
                    boolean served = valley.isServed(kind, s.hour, litres, q);
                    setCell(s.chosen, place, house);
                    descend(s, place + 1, placed | 1 << house,
                        served ? q - valley.kindValue(WANT, kind) : q,
                        served ? gained + valley.kindValue(WORTH, kind) : gained);
                }
            }
        }
    }
}
