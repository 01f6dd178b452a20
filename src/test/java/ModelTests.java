import java.util.Random;

/** Many random runs of calls, each answer against the model's. */
public final class ModelTests {
    private static final int RUNS = 700;
    private static final int CALLS = 160;
    private static final int[] FAR = {Integer.MIN_VALUE, Integer.MAX_VALUE, -7, 1 << 30, 64, -1};

    private final Check check = new Check("model");
    private final Random random;
    private HeatDown x = new HeatDown();
    private Model m = new Model();
    private String trace = "";
    private int calls = 0;

    private ModelTests(long seed) {
        random = new Random(seed);
    }

    public static void main(String[] args) {
        ModelTests tests = new ModelTests(20261119L);
        for (int i = 0; i < RUNS && !tests.check.failed(); i++) {
            tests.oneRun();
        }
        tests.check.end();
    }

    private void due(String call, int got, int want) {
        trace += call + "; ";
        calls++;
        check.due(trace, got, want);
    }

    /** A number from 0 to n - 1, seldom one that is not. */
    private int upTo(int n) {
        int odd = random.nextInt(60);
        if (odd == 0) return FAR[random.nextInt(FAR.length)];
        if (odd == 1) return n;
        if (odd == 2) return -1;
        return random.nextInt(Math.max(1, n));
    }

    private int near(int middle, int spread) {
        return Math.max(0, middle + random.nextInt(2 * spread + 1) - spread);
    }

    private void oneRun() {
        x = new HeatDown();
        m = new Model();
        trace = "";
        calls = 0;
        int most = random.nextInt(10) == 0 ? 8 : 1 + random.nextInt(6);
        typeLane(most);
        if (random.nextBoolean()) {
            tune();
        }
        while (calls < CALLS && !check.failed()) {
            step(most);
        }
    }

    private void type(String text) {
        for (char c : text.toCharArray()) {
            due("say " + c, x.say(c), m.say(c));
        }
    }

    private void typeLane(int most) {
        StringBuilder text = new StringBuilder();
        int houses = 1 + random.nextInt(most);
        for (int i = 0; i < houses; i++) {
            if (random.nextInt(2) == 0) text.append((char) ('1' + random.nextInt(9)));
            if (random.nextInt(3) == 0) text.append('*');
            text.append("bdrchl".charAt(random.nextInt(6)));
        }
        due("wipe", x.wipe(), m.wipe());
        type(text.toString());
        due("fault 0", x.fault(0), m.fault(0));
        due("lane", x.lane(), m.lane());
    }

    /** Values by which several outcomes are about as near. */
    private void tune() {
        for (int kind = 0; kind < 6; kind++) {
            setKind(kind, 0, near(350, 300));
            setKind(kind, 1, near(800, 250));
            setKind(kind, 2, near(700, 700));
            setKind(kind, 3, random.nextInt(10));
        }
        setSpring(0, 1 + random.nextInt(30));
        setSpring(1, near(650, 300));
    }

    private void setKind(int kind, int what, int v) {
        due("kind " + kind + " " + what + " " + v, x.kind(kind, what, v), m.kind(kind, what, v));
    }

    private void setSpring(int which, int v) {
        due("spring " + which + " " + v, x.spring(which, v), m.spring(which, v));
    }

    private void step(int most) {
        int choice = random.nextInt(34);
        int hour = upTo(6);
        int brooks = upTo(1 << m.told(2));
        int draws = upTo(1 << m.told(1));
        int what = upTo(2);
        switch (choice) {
            case 0: setSpring(upTo(5), upTo(50)); break;
            case 1: setSpring(1, near(700, 320)); break;
            case 2: setKind(upTo(6), upTo(5), upTo(64)); break;
            case 3: setKind(upTo(6), upTo(2), near(500, 500)); break;
            case 4: setKind(upTo(6), 2, near(900, 900)); break;
            case 5: setKind(upTo(6), 4, upTo(64)); break;
            case 6: typeLane(most); break;
            case 7: typeDay(); break;
            case 8: typeSigns(); break;
            case 9: due("wipe", x.wipe(), m.wipe()); break;
            case 10: int how = upTo(2); due("fault " + how, x.fault(how), m.fault(how)); break;
            case 11: due("lane", x.lane(), m.lane()); break;
            case 12: askHouse(); break;
            case 13: case 14: case 15: askAt(hour, brooks, draws, what); break;
            case 16: case 17: case 18: askRun(hour, brooks, draws); break;
            case 19: due("judge " + what, x.judge(what), m.judge(what)); break;
            case 20: case 21: askBest(hour); break;
            case 22: if (random.nextInt(most > 6 ? 40 : 2) == 0) askMoss(hour, what); break;
            case 23: due("cools " + hour + " " + brooks + " " + draws,
                x.cools(hour, brooks, draws), m.cools(hour, brooks, draws)); break;
            case 24: case 25: askNew(hour, what); break;
            case 26: if (random.nextInt(most > 6 ? 10 : 2) == 0) askOrder(hour); break;
            case 27: case 28: feel(hour, brooks, draws); break;
            case 29: if (random.nextInt(3) == 0) due("forget", x.forget(), m.forget()); break;
            case 30: askFits(hour, draws, what); break;
            case 31: askWinter(what); break;
            case 32: askImages(); break;
            default: askTold(); break;
        }
    }

    private void typeDay() {
        due("wipe", x.wipe(), m.wipe());
        StringBuilder text = new StringBuilder();
        int hours = random.nextInt(12) == 0 ? 5 + random.nextInt(3) : 6;
        for (int hour = 0; hour < hours; hour++) {
            if (hour > 0) text.append('/');
            int brook = 1 + random.nextInt(Math.max(1, m.told(2)));
            int house = random.nextInt(m.told(1));
            if (m.told(2) > 0 && random.nextBoolean()) text.append((char) ('0' + brook));
            if (random.nextBoolean()) text.append((char) ('A' + house));
            if (random.nextInt(20) == 0) text.append((char) ('A' + random.nextInt(9)));
        }
        type(text.toString());
        due("fault 1", x.fault(1), m.fault(1));
        due("judge 0", x.judge(0), m.judge(0));
        due("judge 1", x.judge(1), m.judge(1));
    }

    private void typeSigns() {
        String signs = "bdrchl123456789***bdrchlABCDEFGHI/////0a!~";
        int count = random.nextInt(9);
        for (int i = 0; i < count; i++) {
            int sign = random.nextInt(30) == 0 ? upTo(128) : signs.charAt(random.nextInt(signs.length()));
            due("say " + sign, x.say(sign), m.say(sign));
            due("fault 0", x.fault(0), m.fault(0));
            due("fault 1", x.fault(1), m.fault(1));
        }
    }

    private void askHouse() {
        int house = upTo(m.told(1));
        int what = upTo(3);
        due("house " + house + " " + what, x.house(house, what), m.house(house, what));
    }

    private void askAt(int hour, int brooks, int draws, int what) {
        int house = upTo(m.told(1) + 1);
        due("at " + hour + " " + brooks + " " + draws + " " + house + " " + what,
            x.at(hour, brooks, draws, house, what), m.at(hour, brooks, draws, house, what));
    }

    private void askRun(int hour, int brooks, int draws) {
        for (int what = -1; what < 5; what++) {
            due("run " + hour + " " + brooks + " " + draws + " " + what,
                x.run(hour, brooks, draws, what), m.run(hour, brooks, draws, what));
        }
    }

    private void askBest(int hour) {
        for (int what = -1; what < 4; what++) {
            due("best " + hour + " " + what, x.best(hour, what), m.best(hour, what));
        }
    }

    private void askMoss(int hour, int what) {
        int k = upTo(9);
        due("moss " + hour + " " + k + " " + what, x.moss(hour, k, what), m.moss(hour, k, what));
    }

    private void askNew(int hour, int what) {
        int kind = upTo(6);
        int place = upTo(m.told(1) + 1);
        due("put " + hour + " " + kind + " " + place, x.put(hour, kind, place), m.put(hour, kind, place));
        due("where " + hour + " " + kind + " " + what, x.where(hour, kind, what), m.where(hour, kind, what));
    }

    private void askOrder(int hour) {
        for (int i = -1; i < m.told(1); i++) {
            due("order " + hour + " " + i, x.order(hour, i), m.order(hour, i));
        }
        int i = upTo(9);
        due("order " + hour + " " + i, x.order(hour, i), m.order(hour, i));
    }

    /** About what could really be felt there. */
    private void feel(int hour, int brooks, int draws) {
        int house = upTo(m.told(1));
        int litres = m.at(hour, brooks, draws, house, 0);
        int heat = m.at(hour, brooks, draws, house, 1);
        int tenths = litres > 0 ? heat / litres : upTo(1000);
        int low = tenths - random.nextInt(40);
        int high = tenths + random.nextInt(40);
        due("felt " + house + " " + low + " " + high, x.felt(house, low, high), m.felt(house, low, high));
        askFits(hour, draws, 0);
        askFits(hour, draws, 1);
    }

    private void askFits(int hour, int draws, int what) {
        for (int i = -2; i < 17; i += 1 + random.nextInt(4)) {
            due("fits " + hour + " " + draws + " " + i, x.fits(hour, draws, i), m.fits(hour, draws, i));
        }
        due("door " + hour + " " + draws + " " + what, x.door(hour, draws, what), m.door(hour, draws, what));
    }

    private void askWinter(int what) {
        int seed = upTo(10000);
        int days = 1 + upTo(30);
        due("winter " + seed + " " + days + " " + what, x.winter(seed, days, what), m.winter(seed, days, what));
    }

    private void askImages() {
        int n = upTo(2);
        if (random.nextBoolean()) {
            due("image " + n, x.image(n), m.image(n));
        } else {
            due("restore " + n, x.restore(n), m.restore(n));
            for (int what = 0; what < 70; what++) {
                due("told " + what, x.told(what), m.told(what));
            }
        }
    }

    private void askTold() {
        int what = upTo(70);
        due("told " + what, x.told(what), m.told(what));
    }
}
