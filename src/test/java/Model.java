import java.util.ArrayList;
import java.util.Arrays;
import java.util.List;
import java.util.TreeMap;
import java.util.regex.Matcher;
import java.util.regex.Pattern;

/** The document once more, in the slowest and plainest way: every plan, set and order is tried whole. */
final class Model {
    private static final int NONE = -6, UNKNOWN = -1, OUTSIDE = -2, STATE = -3, FULL = -4, NO = -5;

    private record House(int kind, int loss, int brook) { }

    private record Door(int house, int low, int high) { }

    private record Run(int[] f, int[] q, int served, int harmed, int lost, int taken, int worth) { }

    private record Plan(int worth, int brooks, int draws) { }

    private record Kept(int[] spring, int[][] kinds, List<House> lane, List<Door> felt) { }

    private int[] spring = {20, 800, 100, 5, 80};
    private int[][] kinds = {
        {380, 1000, 600, 5, 63}, {600, 1000, 1000, 8, 63}, {650, 1000, 900, 9, 63},
        {150, 350, 200, 3, 63}, {200, 300, 100, 6, 63}, {500, 1000, 1200, 4, 63}};
    private List<House> lane = new ArrayList<>(List.of(new House(0, 0, NONE)));
    private List<Door> felt = new ArrayList<>();
    private String pad = "";
    private final Kept[] images = new Kept[2];

    private static boolean in(int v, int low, int high) {
        return v >= low && v <= high;
    }

    private int brooks() {
        return (int) lane.stream().filter(h -> h.brook != NONE).count();
    }

    private boolean okHour(int hour) {
        return in(hour, 0, 5);
    }

    private boolean okBits(int hour, int brooks, int draws) {
        return okHour(hour) && in(brooks, 0, (1 << brooks()) - 1) && in(draws, 0, (1 << lane.size()) - 1);
    }

    int spring(int which, int v) {
        int[] low = {1, 0, 0, 1, 0};
        int[] high = {50, 1000, 300, 30, 300};
        if (!in(which, 0, 4)) return UNKNOWN;
        if (!in(v, low[which], high[which])) return OUTSIDE;
        int old = spring[which];
        spring[which] = v;
        return old;
    }

    int kind(int kind, int what, int v) {
        int[] high = {1000, 1000, 9999, 99, 63};
        if (!in(kind, 0, 5)) return UNKNOWN;
        if (!in(what, 0, 4) || !in(v, 0, high[what])) return OUTSIDE;
        int old = kinds[kind][what];
        kinds[kind][what] = v;
        return old;
    }

    int say(int sign) {
        if (!in(sign, 33, 126)) return OUTSIDE;
        if (pad.length() == 48) return FULL;
        pad += (char) sign;
        return pad.length();
    }

    int wipe() {
        int old = pad.length();
        pad = "";
        return old;
    }

    /** Whether a text could still become a lane. */
    private static boolean startsLane(String text) {
        return text.matches("([1-9]?\\*?[bdrchl]){0,8}|([1-9]?\\*?[bdrchl]){0,7}([1-9]|\\*|[1-9]\\*)")
            && text.chars().filter(c -> c == '*').count() <= 4;
    }

    private boolean startsDay(String text) {
        String[] hours = text.split("/", -1);
        if (hours.length > 6) return false;
        for (String hour : hours) {
            if (hour.chars().distinct().count() != hour.length()) return false;
            for (char c : hour.toCharArray()) {
                if (!in(c, '1', '0' + brooks()) && !in(c, 'A', 'A' + lane.size() - 1)) return false;
            }
        }
        return true;
    }

    int fault(int how) {
        if (!in(how, 0, 1)) return OUTSIDE;
        for (int n = 1; n <= pad.length(); n++) {
            String start = pad.substring(0, n);
            if (how == 0 ? !startsLane(start) : !startsDay(start)) return n - 1;
        }
        boolean whole = how == 0 ? pad.matches(".*[bdrchl]") : pad.split("/", -1).length == 6;
        return whole ? NONE : pad.length();
    }

    int lane() {
        if (fault(0) != NONE) return NO;
        List<House> read = new ArrayList<>();
        int brook = 0;
        Matcher m = Pattern.compile("([1-9]?)(\\*?)([bdrchl])").matcher(pad);
        while (m.find()) {
            int loss = m.group(1).isEmpty() ? 0 : Integer.parseInt(m.group(1));
            read.add(new House("bdrchl".indexOf(m.group(3)), loss, m.group(2).isEmpty() ? NONE : brook++));
        }
        lane = read;
        felt = new ArrayList<>();
        pad = "";
        return lane.size();
    }

    int house(int house, int what) {
        if (!in(house, 0, lane.size() - 1)) return UNKNOWN;
        House h = lane.get(house);
        return what == 0 ? h.kind : what == 1 ? h.loss : what == 2 ? h.brook : OUTSIDE;
    }

    private Run flow(List<House> houses, int warmth, int hour, int brooks, int draws) {
        int n = houses.size();
        int[] fs = new int[n + 1];
        int[] qs = new int[n + 1];
        int served = 0, harmed = 0, lost = 0, taken = 0, worth = 0;
        int f = spring[0];
        int q = f * warmth;
        int air = spring[2];
        for (int i = 0; i < n; i++) {
            House h = houses.get(i);
            int[] k = kinds[h.kind];
            int fall = 10 * h.loss * f;
            int behind = q < air * f ? q : q - fall < air * f ? air * f : q - fall;
            lost += q - behind;
            q = behind;
            if (h.brook != NONE && (brooks >> h.brook) % 2 == 1) {
                q += spring[3] * spring[4];
                f += spring[3];
            }
            fs[i] = f;
            qs[i] = q;
            boolean harm = q > k[1] * f;
            if (harm) harmed += 1 << i;
            boolean draw = (draws >> i) % 2 == 1;
            if (draw && (k[4] >> hour) % 2 == 1 && !harm && q >= k[0] * f && q - k[2] >= air * f) {
                served += 1 << i;
                taken += k[2];
                worth += k[3];
                q -= k[2];
            }
        }
        fs[n] = f;
        qs[n] = q;
        return new Run(fs, qs, served, harmed, lost, taken, worth);
    }

    int at(int hour, int brooks, int draws, int house, int what) {
        if (!in(house, 0, lane.size())) return UNKNOWN;
        if (!okBits(hour, brooks, draws) || !in(what, 0, 1)) return OUTSIDE;
        Run r = flow(lane, spring[1], hour, brooks, draws);
        return what == 0 ? r.f[house] : r.q[house];
    }

    int run(int hour, int brooks, int draws, int what) {
        if (!okBits(hour, brooks, draws) || !in(what, 0, 3)) return OUTSIDE;
        Run r = flow(lane, spring[1], hour, brooks, draws);
        return new int[] {r.served, r.harmed, r.lost, r.taken}[what];
    }

    int judge(int what) {
        if (!in(what, 0, 1)) return OUTSIDE;
        if (fault(1) != NONE) return NO;
        String[] hours = pad.split("/", -1);
        for (int hour = 0; hour < 6; hour++) {
            int brooks = 0, draws = 0;
            for (char c : hours[hour].toCharArray()) {
                if (c <= '4') brooks += 1 << (c - '1');
                else draws += 1 << (c - 'A');
            }
            Run r = flow(lane, spring[1], hour, brooks, draws);
            for (int i = 0; i < lane.size(); i++) {
                boolean harmed = (r.harmed >> i) % 2 == 1;
                boolean unserved = (draws >> i) % 2 == 1 && (r.served >> i) % 2 == 0;
                if (harmed || unserved) return what == 0 ? hour : i;
            }
        }
        return NONE;
    }

    private Plan plan(List<House> houses, int hour) {
        Plan found = new Plan(NONE, NONE, NONE);
        for (int key = 0; key < 256 << brooks(); key++) {
            int brooks = key / 256;
            int draws = key % 256;
            if (draws >> houses.size() != 0) continue;
            Run r = flow(houses, spring[1], hour, brooks, draws);
            if (r.harmed == 0 && r.served == draws && r.worth > found.worth) {
                found = new Plan(r.worth, brooks, draws);
            }
        }
        return found;
    }

    int best(int hour, int what) {
        if (!okHour(hour) || !in(what, 0, 2)) return OUTSIDE;
        Plan p = plan(lane, hour);
        return what == 0 ? p.worth : what == 1 ? p.brooks : p.draws;
    }

    int moss(int hour, int k, int what) {
        if (!okHour(hour) || !in(k, 0, 8) || !in(what, 0, 1)) return OUTSIDE;
        int found = NONE;
        int worth = NONE;
        for (int set = 0; set < 1 << lane.size(); set++) {
            if (Integer.bitCount(set) > k) continue;
            List<House> covered = new ArrayList<>();
            for (int i = 0; i < lane.size(); i++) {
                House h = lane.get(i);
                covered.add(new House(h.kind, (set >> i) % 2 == 1 ? 0 : h.loss, h.brook));
            }
            Plan p = plan(covered, hour);
            if (p.worth > worth || p.worth == worth && worth != NONE && Integer.bitCount(set) < Integer.bitCount(found)) {
                worth = p.worth;
                found = set;
            }
        }
        return what == 0 ? found : worth;
    }

    int cools(int hour, int brooks, int draws) {
        if (!okBits(hour, brooks, draws)) return OUTSIDE;
        for (int warmth = 0; warmth <= 1000; warmth++) {
            Run r = flow(lane, warmth, hour, brooks, draws);
            if (r.harmed == 0 && r.served == draws) return warmth;
        }
        return NONE;
    }

    private int worthWith(int hour, int kind, int place) {
        List<House> more = new ArrayList<>(lane);
        more.add(place, new House(kind, 0, NONE));
        return plan(more, hour).worth;
    }

    int put(int hour, int kind, int place) {
        if (!in(kind, 0, 5) || !in(place, 0, lane.size())) return UNKNOWN;
        if (!okHour(hour)) return OUTSIDE;
        if (lane.size() == 8) return FULL;
        return worthWith(hour, kind, place);
    }

    int where(int hour, int kind, int what) {
        if (!in(kind, 0, 5)) return UNKNOWN;
        if (!okHour(hour) || !in(what, 0, 1)) return OUTSIDE;
        if (lane.size() == 8) return FULL;
        int found = NONE;
        int worth = NONE;
        for (int place = 0; place <= lane.size(); place++) {
            int w = worthWith(hour, kind, place);
            if (w > worth) {
                worth = w;
                found = place;
            }
        }
        return what == 0 ? found : worth;
    }

    /** All orders of n, the first by numbers first. */
    private static void orders(int n, List<Integer> begun, List<List<Integer>> all) {
        if (begun.size() == n) {
            all.add(new ArrayList<>(begun));
            return;
        }
        for (int i = 0; i < n; i++) {
            if (!begun.contains(i)) {
                begun.add(i);
                orders(n, begun, all);
                begun.remove(begun.size() - 1);
            }
        }
    }

    int order(int hour, int i) {
        if (!okHour(hour) || !in(i, -1, lane.size() - 1)) return OUTSIDE;
        if (lane.size() > 7) return FULL;
        List<List<Integer>> all = new ArrayList<>();
        orders(lane.size(), new ArrayList<>(), all);
        int worth = NONE;
        List<Integer> found = null;
        for (List<Integer> order : all) {
            List<House> houses = new ArrayList<>();
            for (int place = 0; place < order.size(); place++) {
                House here = lane.get(place);
                houses.add(new House(lane.get(order.get(place)).kind, here.loss, here.brook));
            }
            Run r = flow(houses, spring[1], hour, 0, (1 << houses.size()) - 1);
            if (r.harmed == 0 && r.worth > worth) {
                worth = r.worth;
                found = order;
            }
        }
        return i == -1 || found == null ? worth : found.get(i);
    }

    int felt(int house, int low, int high) {
        if (!in(house, 0, lane.size() - 1)) return UNKNOWN;
        if (!in(low, 0, 1000) || !in(high, 0, 1000) || low > high) return OUTSIDE;
        if (felt.size() == 6) return FULL;
        felt.add(new Door(house, low, high));
        return felt.size();
    }

    int forget() {
        int old = felt.size();
        felt.clear();
        return old;
    }

    private List<Integer> fitting(int hour, int draws) {
        List<Integer> sets = new ArrayList<>();
        for (int brooks = 0; brooks < 1 << brooks(); brooks++) {
            Run r = flow(lane, spring[1], hour, brooks, draws);
            if (felt.stream().allMatch(d -> in(r.q[d.house] / r.f[d.house], d.low, d.high))) sets.add(brooks);
        }
        return sets;
    }

    int fits(int hour, int draws, int i) {
        if (!okBits(hour, 0, draws)) return OUTSIDE;
        List<Integer> sets = fitting(hour, draws);
        return i == -1 ? sets.size() : in(i, 0, sets.size() - 1) ? sets.get(i) : NONE;
    }

    int door(int hour, int draws, int what) {
        if (!okBits(hour, 0, draws) || !in(what, 0, 1)) return OUTSIDE;
        int found = NONE;
        int fewest = Integer.MAX_VALUE;
        for (int house = 0; house < lane.size(); house++) {
            TreeMap<Integer, Integer> alike = new TreeMap<>();
            for (int brooks : fitting(hour, draws)) {
                Run r = flow(lane, spring[1], hour, brooks, draws);
                alike.merge(r.q[house] / r.f[house], 1, Integer::sum);
            }
            int most = alike.values().stream().max(Integer::compare).orElse(0);
            if (most > 0 && most < fewest) {
                fewest = most;
                found = house;
            }
        }
        return what == 0 || found == NONE ? found : fewest;
    }

    int winter(int seed, int days, int what) {
        if (!in(seed, 0, 9999) || !in(days, 1, 30) || !in(what, 0, 1)) return OUTSIDE;
        Plan[] plans = new Plan[6];
        for (int hour = 0; hour < 6; hour++) plans[hour] = plan(lane, hour);
        long x = seed;
        int worth = 0, harmed = 0;
        for (int day = 0; day < days; day++) {
            x = (75 * x + 74) % 65537;
            int warmth = Math.max(0, spring[1] - (int) (x % 200));
            for (int hour = 0; hour < 6; hour++) {
                boolean none = plans[hour].worth == NONE;
                Run r = flow(lane, warmth, hour, none ? 0 : plans[hour].brooks, none ? 0 : plans[hour].draws);
                worth += r.worth;
                harmed += Integer.bitCount(r.harmed);
            }
        }
        return what == 0 ? worth : harmed;
    }

    private Kept keep(int[] springs, int[][] values, List<House> houses, List<Door> doors) {
        int[][] copies = new int[6][];
        for (int kind = 0; kind < 6; kind++) copies[kind] = values[kind].clone();
        return new Kept(springs.clone(), copies, new ArrayList<>(houses), new ArrayList<>(doors));
    }

    int image(int n) {
        if (!in(n, 0, 1)) return OUTSIDE;
        images[n] = keep(spring, kinds, lane, felt);
        return 1;
    }

    int restore(int n) {
        if (!in(n, 0, 1)) return OUTSIDE;
        if (images[n] == null) return STATE;
        Kept k = keep(images[n].spring, images[n].kinds, images[n].lane, images[n].felt);
        spring = k.spring;
        kinds = k.kinds;
        lane = k.lane;
        felt = k.felt;
        return 1;
    }

    int told(int what) {
        if (what == 0) return pad.length();
        if (what == 1) return lane.size();
        if (what == 2) return brooks();
        if (what == 3) return felt.size();
        if (in(what, 10, 14)) return spring[what - 10];
        if (in(what, 20, 69) && what % 10 < 6) return kinds[what % 10][what / 10 - 2];
        return OUTSIDE;
    }

    @Override
    public String toString() {
        return lane + " " + Arrays.toString(spring) + " " + Arrays.deepToString(kinds) + " " + felt + " " + pad;
    }
}
