import java.util.ArrayList;
import java.util.List;

/**
 * Calls that search agree with those that only follow the water: each answer is found anew, over all that there
 * may be, with at, run and best of lanes that are told as texts. New objects are made all along, since the document
 * promises nothing about one after its 512th call.
 */
public final class AgreeTests {
    private static final int NONE = -6;
    private static final Check CHECK = new Check("agree");
    private static final String KINDS = "bdrchl";
    private static final int[] WORTHS = {5, 8, 9, 3, 6, 4};

    /** Lanes of one to eight houses; with no pipe and no brook, with all of them. */
    private static final String[] LANES = {"b", "9h", "*h", "3*r", "*d2*r", "h1b2*c", "2*l*h3d1b", "1c*r2*b*hd",
        "1b1b1b", "4d*b3*l1h*c2*r", "1*b2*d3*r4*c5h6l7b", "1*b2*d3*r4*c5h6l7b9d"};
    /** FLOW, WARMTH, AIR, BROOK, COLD. */
    private static final int[][] SPRINGS = {{20, 800, 100, 5, 80}, {7, 640, 0, 3, 300}, {50, 1000, 300, 30, 0},
        {1, 520, 20, 1, 10}, {12, 350, 300, 2, 120}, {9, 0, 0, 9, 0}};

    private final String lane;
    private final int[] springs;
    /** The kind at each house. */
    private final int[] kinds;
    /** The pipes that there are, as bits. */
    private final int pipes;
    private final int brookSets;

    private AgreeTests(String lane, int[] springs) {
        this.lane = lane;
        this.springs = springs;
        this.kinds = lane.chars().map(KINDS::indexOf).filter(kind -> kind >= 0).toArray();
        int bits = 0;
        for (int house = 0; house < kinds.length; house++) {
            char first = lane.charAt(startOf(house));
            bits |= first >= '1' && first <= '9' ? 1 << house : 0;
        }
        this.pipes = bits;
        this.brookSets = 1 << lane.chars().filter(sign -> sign == '*').count();
    }

    public static void main(String[] args) {
        for (String lane : LANES) {
            for (int[] springs : SPRINGS) {
                AgreeTests tests = new AgreeTests(lane, springs);
                tests.best();
                tests.cools();
                tests.fits();
                tests.door();
                tests.winter();
                tests.newHouses();
                tests.moss();
                tests.order();
            }
        }
        CHECK.end();
    }

    private HeatDown made() {
        return made(lane);
    }

    private HeatDown made(String text) {
        HeatDown x = Check.withLane(text);
        for (int which = 0; which < 5; which++) {
            x.spring(which, springs[which]);
        }
        // c and h bear more than at first, that not all plans are NONE; b wants nothing in hour 3
        x.kind(3, 1, 700);
        x.kind(4, 1, 800);
        x.kind(0, 4, 55);
        return x;
    }

    private void due(String call, long got, long want) {
        CHECK.due(call + " in " + lane, got, want);
    }

    private int allDraw() {
        return (1 << kinds.length) - 1;
    }

    private static boolean isWell(HeatDown x, int hour, int brooks, int draws) {
        return x.run(hour, brooks, draws, 1) == 0 && x.run(hour, brooks, draws, 0) == draws;
    }

    private static int worthOf(int[] kindsThere, int served) {
        int sum = 0;
        for (int house = 0; house < kindsThere.length; house++) {
            sum += (served >> house & 1) * WORTHS[kindsThere[house]];
        }
        return sum;
    }

    private void best() {
        int worth = NONE;
        int found = NONE;
        for (int brooks = 0; brooks < brookSets; brooks++) {
            for (int draws = 0; draws <= allDraw(); draws++) {
                if (isWell(made(), 3, brooks, draws) && worthOf(kinds, draws) > worth) {
                    worth = worthOf(kinds, draws);
                    found = 256 * brooks + draws;
                }
            }
        }
        due("12: WORTH", made().best(3, 0), worth);
        due("12: BROOKS", made().best(3, 1), found == NONE ? NONE : found / 256);
        due("12: DRAWS", made().best(3, 2), found == NONE ? NONE : found % 256);
    }

    private void cools() {
        for (int draws = 0; draws <= allDraw(); draws = 2 * draws + 1) {
            int brooks = draws & brookSets - 1;
            int found = NONE;
            for (int warmth = 1000; warmth >= 0; warmth--) {
                HeatDown x = made();
                x.spring(1, warmth);
                found = isWell(x, 1, brooks, draws) ? warmth : found;
            }
            due("14: COOLS by " + brooks + ", " + draws, made().cools(1, brooks, draws), found);
        }
    }

    private int tenths(int brooks, int house) {
        HeatDown x = made();
        return x.at(2, brooks, allDraw(), house, 1) / x.at(2, brooks, allDraw(), house, 0);
    }

    private List<Integer> setsThatFit(int house, int low, int high) {
        List<Integer> sets = new ArrayList<>();
        for (int brooks = 0; brooks < brookSets; brooks++) {
            int felt = tenths(brooks, house);
            if (felt >= low && felt <= high) {
                sets.add(brooks);
            }
        }
        return sets;
    }

    /** About what is felt at the last house by one set: just so, and a tenth beside it on both sides. */
    private void fits() {
        int house = kinds.length - 1;
        int middle = tenths(brookSets / 2, house);
        int[][] ranges = {{middle, middle}, {middle + 1, 1000}, {0, middle}, {0, middle - 1}, {middle, 1000}};
        for (int[] range : ranges) {
            HeatDown x = made();
            if (x.felt(house, range[0], range[1]) != 1) {
                continue;
            }
            List<Integer> sets = setsThatFit(house, range[0], range[1]);
            due("20: how many", x.fits(2, allDraw(), -1), sets.size());
            for (int i = 0; i < sets.size(); i++) {
                due("20: set " + i, x.fits(2, allDraw(), i), sets.get(i));
            }
            due("20: behind the last", x.fits(2, allDraw(), sets.size()), NONE);
        }
    }

    private void door() {
        int last = kinds.length - 1;
        int high = tenths(brookSets / 2, last);
        List<Integer> sets = setsThatFit(last, 0, high);
        int found = NONE;
        int fewest = 17;
        for (int house = 0; house <= last; house++) {
            int[] counts = new int[1001];
            int most = 0;
            for (int set : sets) {
                counts[tenths(set, house)]++;
                most = Math.max(most, counts[tenths(set, house)]);
            }
            if (most < fewest) {
                fewest = most;
                found = house;
            }
        }
        HeatDown x = made();
        x.felt(last, 0, high);
        due("21: DOOR", x.door(2, allDraw(), 0), found);
        due("21: alike", x.door(2, allDraw(), 1), fewest);
    }

    private void winter() {
        HeatDown told = made();
        int seed = 4321;
        long x = seed;
        int worth = 0;
        int harmed = 0;
        for (int i = 1; i <= 12; i++) {
            HeatDown day = made();
            x = (75 * x + 74) % 65537;
            day.spring(1, Math.max(0, springs[1] - (int) (x % 200)));
            for (int hour = 0; hour < 6; hour++) {
                int brooks = Math.max(0, told.best(hour, 1));
                int draws = Math.max(0, told.best(hour, 2));
                worth += worthOf(kinds, day.run(hour, brooks, draws, 0));
                harmed += Integer.bitCount(day.run(hour, brooks, draws, 1));
            }
            due("22: WORTHS of " + i + " days", told.winter(seed, i, 0), worth);
            due("22: HARMED in " + i + " days", told.winter(seed, i, 1), harmed);
        }
    }

    /** Where the text of a house begins: at its digit, its * or its letter. */
    private int startOf(int house) {
        int start = 0;
        int before = 0;
        for (int i = 0; i < lane.length() && before < house; i++) {
            if (KINDS.indexOf(lane.charAt(i)) >= 0) {
                before++;
                start = i + 1;
            }
        }
        return start;
    }

    /** NEW is the lane with one letter more, ahead of digit and * of the house behind it. */
    private void newHouses() {
        if (kinds.length == 8) {
            return;
        }
        for (int kind = 0; kind < 6; kind++) {
            HeatDown x = made();
            int found = NONE;
            int most = NONE;
            for (int place = 0; place <= kinds.length; place++) {
                int start = startOf(place);
                String text = lane.substring(0, start) + KINDS.charAt(kind) + lane.substring(start);
                int worth = made(text).best(1, 0);
                due("15: " + text, x.put(1, kind, place), worth);
                if (worth > most) {
                    most = worth;
                    found = place;
                }
            }
            due("16: place of " + kind, x.where(1, kind, 0), found);
            due("16: WORTH of " + kind, x.where(1, kind, 1), most);
        }
    }

    /** Under MOSS the lane has no digit there. */
    private void moss() {
        HeatDown x = made();
        for (int k = 0; k <= 8; k += kinds.length > 6 ? 3 : 1) {
            int found = NONE;
            int most = NONE;
            for (int size = 0; size <= k; size++) {
                for (int set = 0; set <= pipes; set++) {
                    if (Integer.bitCount(set) == size && (set & ~pipes) == 0) {
                        int worth = made(without(set)).best(0, 0);
                        found = worth > most ? set : found;
                        most = Math.max(worth, most);
                    }
                }
            }
            due("13: PIPES by " + k, x.moss(0, k, 0), found);
            due("13: WORTH by " + k, x.moss(0, k, 1), most);
        }
    }

    private String without(int set) {
        StringBuilder text = new StringBuilder();
        int house = 0;
        for (char sign : lane.toCharArray()) {
            boolean digit = sign >= '1' && sign <= '9';
            if (!digit || (set >> house & 1) == 0) {
                text.append(sign);
            }
            house += KINDS.indexOf(sign) >= 0 ? 1 : 0;
        }
        return text.toString();
    }

    /** In another order the letters change places; digits and * stay. */
    private void order() {
        if (kinds.length > 6) {
            return;
        }
        List<int[]> orders = new ArrayList<>();
        allOrders(new int[kinds.length], 0, 0, orders);
        int most = NONE;
        int[] found = null;
        for (int[] order : orders) {
            HeatDown other = made(reordered(order));
            int[] kindsThere = new int[kinds.length];
            for (int place = 0; place < order.length; place++) {
                kindsThere[place] = kinds[order[place]];
            }
            int served = other.run(4, 0, allDraw(), 0);
            int worth = other.run(4, 0, allDraw(), 1) == 0 ? worthOf(kindsThere, served) : NONE;
            if (worth > most) {
                most = worth;
                found = order;
            }
        }
        HeatDown x = made();
        due("17: WORTH", x.order(4, -1), most);
        for (int i = 0; i < kinds.length; i++) {
            due("17: house at " + i, x.order(4, i), found == null ? NONE : found[i]);
        }
    }

    private static void allOrders(int[] order, int place, int placed, List<int[]> orders) {
        if (place == order.length) {
            orders.add(order.clone());
            return;
        }
        for (int house = 0; house < order.length; house++) {
            if ((placed >> house & 1) == 0) {
                order[place] = house;
                allOrders(order, place + 1, placed | 1 << house, orders);
            }
        }
    }

    private String reordered(int[] order) {
        StringBuilder text = new StringBuilder();
        int place = 0;
        for (char sign : lane.toCharArray()) {
            boolean house = KINDS.indexOf(sign) >= 0;
            text.append(house ? KINDS.charAt(kinds[order[place++]]) : sign);
        }
        return text.toString();
    }
}
