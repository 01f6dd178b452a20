/** Each promise by answers worked out by hand: ordinary inputs, the edges named, wrong inputs. */
public final class PromiseTests {
    private static final int NONE = -6, UNKNOWN = -1, OUTSIDE = -2, STATE = -3, FULL = -4, NO = -5;
    private static final int MIN = Integer.MIN_VALUE, MAX = Integer.MAX_VALUE;
    private static final Check CHECK = new Check("promises");

    private static final int[] SPRING_FIRST = {20, 800, 100, 5, 80};
    private static final int[] SPRING_LOW = {1, 0, 0, 1, 0};
    private static final int[] SPRING_HIGH = {50, 1000, 300, 30, 300};
    private static final int[][] KIND_FIRST = {
        {380, 600, 650, 150, 200, 500},
        {1000, 1000, 1000, 350, 300, 1000},
        {600, 1000, 900, 200, 100, 1200},
        {5, 8, 9, 3, 6, 4},
        {63, 63, 63, 63, 63, 63}};
    private static final int[] KIND_HIGH = {1000, 1000, 9999, 99, 63};

    public static void main(String[] args) {
        newObject();
        spring();
        kind();
        sayAndWipe();
        faultOfLanes();
        faultOfDays();
        lane();
        house();
        atPipesAndBrooks();
        atRefusals();
        served();
        run();
        judge();
        best();
        bestNone();
        moss();
        mossEdges();
        cools();
        put();
        where();
        order();
        orderEdges();
        felt();
        fits();
        door();
        winter();
        winterEdges();
        images();
        told();
        readmeExample();
        CHECK.end();
    }

    private static void due(String call, long got, long want) {
        CHECK.due(call, got, want);
    }

    private static void newObject() {
        HeatDown x = new HeatDown();
        due("1: told(0)", x.told(0), 0);
        due("1: told(1)", x.told(1), 1);
        due("1: told(2)", x.told(2), 0);
        due("1: told(3)", x.told(3), 0);
        due("1: house(0, 0)", x.house(0, 0), 0);
        due("1: house(0, 1)", x.house(0, 1), 0);
        due("1: house(0, 2)", x.house(0, 2), NONE);
        for (int which = 0; which < 5; which++) {
            due("1: told of spring " + which, x.told(10 + which), SPRING_FIRST[which]);
        }
        for (int what = 0; what < 5; what++) {
            for (int kind = 0; kind < 6; kind++) {
                due("1: told of kind " + kind + " " + what, x.told(20 + 10 * what + kind), KIND_FIRST[what][kind]);
            }
        }
        due("1: wipe", x.wipe(), 0);
        due("1: forget", x.forget(), 0);
        due("1: restore(0)", x.restore(0), STATE);
        due("1: restore(1)", x.restore(1), STATE);
        // Two objects have nothing in common.
        x.spring(0, 7);
        due("1: another object", new HeatDown().told(10), 20);
    }

    private static void spring() {
        HeatDown x = new HeatDown();
        for (int which = 0; which < 5; which++) {
            due("2: below " + which, x.spring(which, SPRING_LOW[which] - 1), OUTSIDE);
            due("2: above " + which, x.spring(which, SPRING_HIGH[which] + 1), OUTSIDE);
            due("2: far below " + which, x.spring(which, MIN), OUTSIDE);
            due("2: far above " + which, x.spring(which, MAX), OUTSIDE);
            due("2: least " + which, x.spring(which, SPRING_LOW[which]), SPRING_FIRST[which]);
            due("2: most " + which, x.spring(which, SPRING_HIGH[which]), SPRING_LOW[which]);
            due("2: told " + which, x.told(10 + which), SPRING_HIGH[which]);
        }
        due("2: spring(5, 1)", x.spring(5, 1), UNKNOWN);
        due("2: spring(-1, 1)", x.spring(-1, 1), UNKNOWN);
        due("2: UNKNOWN first", x.spring(MAX, -1), UNKNOWN);
        due("2: UNKNOWN first, far below", x.spring(MIN, MIN), UNKNOWN);
    }

    private static void kind() {
        HeatDown x = new HeatDown();
        for (int kind = 0; kind < 6; kind++) {
            for (int what = 0; what < 5; what++) {
                due("3: below", x.kind(kind, what, -1), OUTSIDE);
                due("3: above", x.kind(kind, what, KIND_HIGH[what] + 1), OUTSIDE);
                due("3: least", x.kind(kind, what, 0), KIND_FIRST[what][kind]);
                due("3: most", x.kind(kind, what, KIND_HIGH[what]), 0);
                due("3: one of its own", x.kind(kind, what, 10 * what + kind), KIND_HIGH[what]);
            }
        }
        for (int kind = 0; kind < 6; kind++) {
            for (int what = 0; what < 5; what++) {
                due("3: kept apart", x.told(20 + 10 * what + kind), 10 * what + kind);
            }
        }
        due("3: kind(0, 5, 0)", x.kind(0, 5, 0), OUTSIDE);
        due("3: kind(0, -1, 0)", x.kind(0, -1, 0), OUTSIDE);
        due("3: kind(0, MAX, 0)", x.kind(0, MAX, 0), OUTSIDE);
        due("3: kind(6, 0, 0)", x.kind(6, 0, 0), UNKNOWN);
        due("3: kind(-1, 9, -9)", x.kind(-1, 9, -9), UNKNOWN);
        due("3: kind(MIN, MIN, MIN)", x.kind(MIN, MIN, MIN), UNKNOWN);
    }

    private static void sayAndWipe() {
        HeatDown x = new HeatDown();
        due("4: say(32)", x.say(32), OUTSIDE);
        due("4: say(127)", x.say(127), OUTSIDE);
        due("4: say(MIN)", x.say(MIN), OUTSIDE);
        due("4: say(33)", x.say(33), 1);
        due("4: say(126)", x.say(126), 2);
        for (int i = 3; i <= 48; i++) {
            due("4: sign " + i, x.say('b'), i);
        }
        due("4: one too many", x.say('b'), FULL);
        due("4: OUTSIDE before FULL", x.say(32), OUTSIDE);
        due("4: told", x.told(0), 48);
        due("5: wipe", x.wipe(), 48);
        due("5: wiped", x.told(0), 0);
        due("5: wipe again", x.wipe(), 0);
        due("5: say after it", x.say('b'), 1);
        due("5: wipe one", x.wipe(), 1);
    }

    private static void laneFault(String text, int want) {
        HeatDown x = new HeatDown();
        Check.type(x, text);
        due("6: lane fault of " + text, x.fault(0), want);
        due("6: signs stay", x.told(0), text.length());
        due("7: lane of " + text, x.lane() == NO ? 1 : 0, want == NONE ? 0 : 1);
        due("7: signs after lane", x.told(0), want == NONE ? 0 : text.length());
    }

    private static void faultOfLanes() {
        laneFault("", 0);
        laneFault("b", NONE);
        laneFault("bdrchl", NONE);
        laneFault("3b", NONE);
        laneFault("1*b9d", NONE);
        laneFault("3", 1);
        laneFault("*", 1);
        laneFault("3*", 2);
        laneFault("b3", 2);
        laneFault("b*", 2);
        laneFault("33b", 1);
        laneFault("**b", 1);
        laneFault("*3b", 1);
        laneFault("0b", 0);
        laneFault("B", 0);
        laneFault("bx", 1);
        laneFault("b/", 1);
        laneFault("bdrchlbd", NONE);
        laneFault("bdrchlbdb", 8);
        laneFault("bdrchlbd1", 8);
        laneFault("bdrchlbd*", 8);
        laneFault("*b*b*b*b", NONE);
        laneFault("*b*b*b*b*b", 8);
        laneFault("*b*b*b*b3*b", 9);
        laneFault("*b*b*b*b3b", NONE);
        laneFault("1*b2*d3*r4*c5h6l7b8d", NONE);
        laneFault("bbbbbbbbbbbbbbbbbbbbbbbbbbbbbbbbbbbbbbbbbbbbbbbb", 8);
    }

    private static void dayFault(String lane, String text, int want) {
        HeatDown x = Check.withLane(lane);
        Check.type(x, text);
        due("6: day fault of " + text + " in " + lane, x.fault(1), want);
        due("11: judge of " + text, x.judge(0) == NO ? 1 : 0, want == NONE ? 0 : 1);
        due("6: signs stay", x.told(0), text.length());
    }

    private static void faultOfDays() {
        dayFault("b", "", 0);
        dayFault("b", "/////", NONE);
        dayFault("b", "////", 4);
        dayFault("b", "//////", 5);
        dayFault("b", "A/A/A/A/A/A", NONE);
        dayFault("b", "A/A/A/A/A/A/", 11);
        dayFault("b", "A/A/A/A/A/AA", 11);
        dayFault("b", "A//A///A", NONE);
        dayFault("b", "AA", 1);
        dayFault("b", "B", 0);
        dayFault("b", "1", 0);
        dayFault("b", "a", 0);
        dayFault("b", "A/b", 2);
        dayFault("*b*d", "12AB/B2A1////", NONE);
        dayFault("*b*d", "3", 0);
        dayFault("*b*d", "11", 1);
        dayFault("*b*d", "1A1", 2);
        dayFault("*b*d", "1A/1A/1A/1A/1A", 14);
        dayFault("*b*d", "C", 0);
        dayFault("*b*d", "0", 0);
        dayFault("*b*b*b*bbbbb", "4321HGFEDCBA/////", NONE);
        dayFault("*b*b*b*bbbbb", "5", 0);
        dayFault("*b*b*b*bbbbb", "I", 0);
        dayFault("*b*b*b*bbbbb", "1234ABCDEFGH/1234ABCDEFGH/1234ABCDEFGH/123456789", 43);
        dayFault("*b*b*b*bbbbb", "1234ABCDEFGH/1234ABCDEFGH/1234ABCDEFGH/1234ABCDE", 48);
        HeatDown x = new HeatDown();
        due("6: fault(2)", x.fault(2), OUTSIDE);
        due("6: fault(-1)", x.fault(-1), OUTSIDE);
        due("6: fault(MAX)", x.fault(MAX), OUTSIDE);
    }

    private static void lane() {
        HeatDown x = Check.withLane("*bd");
        due("7: told houses", x.told(1), 2);
        due("7: told brooks", x.told(2), 1);
        x.felt(1, 0, 1000);
        Check.type(x, "bx");
        due("7: NO", x.lane(), NO);
        due("7: NO leaves houses", x.told(1), 2);
        due("7: NO leaves what was felt", x.told(3), 1);
        due("7: NO leaves the signs", x.wipe(), 2);
        Check.type(x, "r*c*hl");
        due("7: lane", x.lane(), 4);
        due("7: houses", x.told(1), 4);
        due("7: brooks", x.told(2), 2);
        due("7: what was felt goes", x.told(3), 0);
        due("7: the pad is empty", x.told(0), 0);
        due("7: nothing is no lane", x.lane(), NO);
    }

    private static void house() {
        HeatDown x = Check.withLane("3*bd*r9ch*l");
        int[][] want = {{0, 3, 0}, {1, 0, NONE}, {2, 0, 1}, {3, 9, NONE}, {4, 0, NONE}, {5, 0, 2}};
        for (int house = 0; house < 6; house++) {
            for (int what = 0; what < 3; what++) {
                due("8: house(" + house + ", " + what + ")", x.house(house, what), want[house][what]);
            }
        }
        due("8: house(6, 0)", x.house(6, 0), UNKNOWN);
        due("8: house(-1, 0)", x.house(-1, 0), UNKNOWN);
        due("8: UNKNOWN first", x.house(MAX, 7), UNKNOWN);
        due("8: house(0, 3)", x.house(0, 3), OUTSIDE);
        due("8: house(5, -1)", x.house(5, -1), OUTSIDE);
    }

    private static void atPipesAndBrooks() {
        HeatDown x = Check.withLane("2*dl");
        x.spring(0, 10);
        x.spring(3, 4);
        x.spring(4, 50);
        due("9: litres ahead", x.at(0, 1, 3, 0, 0), 14);
        due("9: heat ahead", x.at(0, 1, 3, 0, 1), 8000);
        due("9: d is too cold", x.at(0, 1, 3, 1, 1), 8000);
        due("9: litres at the end", x.at(0, 1, 3, 2, 0), 14);
        due("9: heat at the end", x.at(0, 1, 3, 2, 1), 6800);
        due("9: no brook", x.at(0, 0, 3, 0, 0), 10);
        due("9: heat without it", x.at(0, 0, 3, 0, 1), 7800);
        due("9: d took", x.at(0, 0, 3, 1, 1), 6800);
        due("9: l took", x.at(0, 0, 3, 2, 1), 5600);
        due("9: nobody draws", x.at(0, 0, 0, 2, 1), 7800);
        pipeAndAir(150, 2000);
        pipeAndAir(90, 1800);
        pipeAndAir(100, 2000);
        pipeAndAir(190, 2000);
        pipeAndAir(191, 2020);
        pipeAndAir(0, 0);
        // 2600 less 599 is one above AIR: all that the pipe can still take
        x = Check.withLane("b9b");
        x.spring(1, 130);
        x.kind(0, 0, 0);
        x.kind(0, 2, 599);
        due("9: one above AIR", x.at(0, 0, 1, 1, 1), 2000);
        due("10: one lost", x.run(0, 0, 1, 2), 1);
    }

    private static void pipeAndAir(int warmth, int want) {
        HeatDown x = Check.withLane("9b");
        x.spring(1, warmth);
        due("9: behind a pipe from " + warmth, x.at(0, 0, 0, 0, 1), want);
        due("10: lost from " + warmth, x.run(0, 0, 0, 2), 20 * warmth - want);
    }

    private static void atRefusals() {
        HeatDown x = Check.withLane("*bd");
        due("9: the end", x.at(5, 1, 3, 2, 0), 25);
        due("9: no such house", x.at(0, 0, 0, 3, 0), UNKNOWN);
        due("9: house -1", x.at(0, 0, 0, -1, 0), UNKNOWN);
        due("9: UNKNOWN first", x.at(9, 9, 9, 9, 9), UNKNOWN);
        due("9: hour 6", x.at(6, 0, 0, 0, 0), OUTSIDE);
        due("9: hour -1", x.at(-1, 0, 0, 0, 0), OUTSIDE);
        due("9: brooks 2", x.at(0, 2, 0, 0, 0), OUTSIDE);
        due("9: brooks -1", x.at(0, -1, 0, 0, 0), OUTSIDE);
        due("9: draws 4", x.at(0, 0, 4, 0, 0), OUTSIDE);
        due("9: draws MIN", x.at(0, 0, MIN, 0, 0), OUTSIDE);
        due("9: what 2", x.at(0, 0, 0, 0, 2), OUTSIDE);
        due("9: what -1", x.at(0, 0, 0, 0, -1), OUTSIDE);
    }

    /** Whether the one house of kind 0, by 20 litres, is served (1), harmed (2). */
    private static int fate(int[] values, int hour, int draws) {
        HeatDown x = new HeatDown();
        x.spring(1, values[0]);
        x.spring(2, values[1]);
        for (int what = 0; what < 3; what++) {
            x.kind(0, what, values[2 + what]);
        }
        x.kind(0, 4, 5);
        return x.run(hour, 0, draws, 0) + 2 * x.run(hour, 0, draws, 1);
    }

    private static void served() {
        // WARMTH, AIR, NEED, MOST, WANT; the house wants something in the hours 0 and 2
        due("10: served", fate(new int[] {400, 100, 380, 500, 600}, 0, 1), 1);
        due("10: served in hour 2", fate(new int[] {400, 100, 380, 500, 600}, 2, 1), 1);
        due("10: wants nothing in hour 1", fate(new int[] {400, 100, 380, 500, 600}, 1, 1), 0);
        due("10: does not draw", fate(new int[] {400, 100, 380, 500, 600}, 0, 0), 0);
        due("10: NEED just so", fate(new int[] {380, 100, 380, 500, 600}, 0, 1), 1);
        due("10: below NEED", fate(new int[] {379, 100, 380, 500, 600}, 0, 1), 0);
        due("10: MOST just so", fate(new int[] {500, 100, 380, 500, 600}, 0, 1), 1);
        due("10: above MOST", fate(new int[] {501, 100, 380, 500, 600}, 0, 1), 2);
        due("10: harmed without drawing", fate(new int[] {501, 100, 380, 500, 600}, 0, 0), 2);
        due("10: harmed without wanting", fate(new int[] {501, 100, 380, 500, 600}, 1, 1), 2);
        due("10: down to AIR", fate(new int[] {130, 100, 0, 500, 600}, 0, 1), 1);
        due("10: below AIR", fate(new int[] {130, 100, 0, 500, 601}, 0, 1), 0);
        due("10: AIR is warm", fate(new int[] {130, 131, 0, 500, 0}, 0, 1), 0);
        due("10: nothing is there, nothing is taken", fate(new int[] {0, 0, 0, 0, 0}, 0, 1), 1);
    }

    private static void run() {
        HeatDown x = Check.withLane("3b2*hd");
        // 16000 - 600 = 15400, b takes 600; 14800 - 400 + 400 = 14800 by 25: 592, h is harmed; d is too cold
        due("10: served", x.run(0, 1, 7, 0), 1);
        due("10: harmed", x.run(0, 1, 7, 1), 2);
        due("10: lost", x.run(0, 1, 7, 2), 1000);
        due("10: taken", x.run(0, 1, 7, 3), 600);
        // by 20 litres d has 14400, of which it takes 1000
        due("10: served, no brook", x.run(0, 0, 7, 0), 5);
        due("10: harmed, no brook", x.run(0, 0, 7, 1), 2);
        due("10: lost, no brook", x.run(0, 0, 7, 2), 1000);
        due("10: taken, no brook", x.run(0, 0, 7, 3), 1600);
        due("10: only d", x.run(0, 0, 4, 0), 4);
        due("10: taken by d", x.run(0, 0, 4, 3), 1000);
        due("10: what 4", x.run(0, 0, 0, 4), OUTSIDE);
        due("10: what -1", x.run(0, 0, 0, -1), OUTSIDE);
        due("10: hour 6", x.run(6, 0, 0, 0), OUTSIDE);
        due("10: hour -1", x.run(-1, 0, 0, 0), OUTSIDE);
        due("10: brooks 2", x.run(0, 2, 0, 0), OUTSIDE);
        due("10: draws 8", x.run(0, 0, 8, 0), OUTSIDE);
        due("10: draws -1", x.run(0, 0, -1, 0), OUTSIDE);
    }

    private static void dayJudged(HeatDown x, String day, int hour, int house) {
        x.wipe();
        Check.type(x, day);
        due("11: hour of " + day, x.judge(0), hour);
        due("11: house of " + day, x.judge(1), house);
        due("11: the day stays", x.told(0), day.length());
    }

    private static void judge() {
        HeatDown x = Check.withLane("b*dr");
        x.spring(0, 50);
        x.spring(3, 30);
        // 40000 by 50; with the brook 42400 by 80: 530 (b before it: 522), too cold for d and r
        dayJudged(x, "/////", NONE, NONE);
        dayJudged(x, "ABC/ABC/ABC/ABC/ABC/ABC", NONE, NONE);
        dayJudged(x, "1A/1A/1/1/1A/A", NONE, NONE);
        dayJudged(x, "A/A/1AC/B/1B/", 2, 2);
        dayJudged(x, "A/A/1CB/B/1B/", 2, 1);
        dayJudged(x, "/////1C", 5, 2);
        x.kind(1, 4, 31);
        dayJudged(x, "B/B/B/B/B/B", 5, 1);
        // r is harmed by 800 tenths, drawing or not; a house above it that is not served comes first
        x.kind(2, 1, 700);
        dayJudged(x, "/////", 0, 2);
        dayJudged(x, "1/1/A/1/1/1", 2, 2);
        x.kind(0, 0, 1000);
        dayJudged(x, "1/1/A/1/1/1", 2, 0);
        due("11: what 2", x.judge(2), OUTSIDE);
        due("11: what -1", x.judge(-1), OUTSIDE);
        x.wipe();
        due("11: NO", x.judge(0), NO);
        due("11: OUTSIDE before NO", x.judge(2), OUTSIDE);
    }

    private static void bestDue(HeatDown x, int hour, int worth, int brooks, int draws) {
        due("12: WORTH", x.best(hour, 0), worth);
        due("12: BROOKS", x.best(hour, 1), brooks);
        due("12: DRAWS", x.best(hour, 2), draws);
    }

    private static void best() {
        HeatDown x = Check.withLane("bb");
        x.spring(0, 10);
        x.spring(1, 400);
        // 4000: one of the two, since 3400 is below 3800
        bestDue(x, 0, 5, 0, 1);
        x.spring(1, 440);
        bestDue(x, 0, 10, 0, 3);
        x.kind(0, 3, 0);
        bestDue(x, 0, 0, 0, 0);
        x.kind(0, 4, 62);
        x.kind(0, 3, 99);
        bestDue(x, 0, 0, 0, 0);
        bestDue(x, 1, 198, 0, 3);

        x = Check.withLane("*h");
        x.spring(0, 10);
        x.spring(1, 400);
        x.spring(3, 10);
        x.spring(4, 0);
        bestDue(x, 0, 6, 1, 1);
        x.spring(1, 300);
        bestDue(x, 0, 6, 0, 1);

        // l is worth nothing, and keeps h from harm
        x = Check.withLane("lh");
        x.spring(0, 10);
        x.spring(1, 310);
        x.kind(5, 0, 300);
        x.kind(5, 3, 0);
        bestDue(x, 0, 0, 0, 1);
        // of two brooks the first, of two houses the first
        x = Check.withLane("*b*hc");
        x.spring(0, 10);
        x.spring(1, 460);
        x.spring(3, 10);
        x.spring(4, 0);
        x.kind(0, 0, 1000);
        x.kind(3, 3, 6);
        x.kind(3, 1, 300);
        x.kind(4, 2, 200);
        x.kind(3, 0, 229);
        bestDue(x, 0, 6, 1, 2);
    }

    private static void bestNone() {
        HeatDown x = Check.withLane("h");
        bestDue(x, 0, NONE, NONE, NONE);
        due("12: hour 6", x.best(6, 0), OUTSIDE);
        due("12: hour -1", x.best(-1, 0), OUTSIDE);
        due("12: what 3", x.best(0, 3), OUTSIDE);
        due("12: what -1", x.best(0, -1), OUTSIDE);
    }

    private static void mossDue(HeatDown x, int k, int set, int worth) {
        due("13: set by " + k, x.moss(0, k, 0), set);
        due("13: WORTH by " + k, x.moss(0, k, 1), worth);
    }

    private static void moss() {
        HeatDown x = Check.withLane("2b2r");
        x.spring(0, 10);
        // r needs 650 tenths; each pipe takes 20, b takes 60
        x.spring(1, 690);
        mossDue(x, 0, 0, 9);
        mossDue(x, 8, 0, 9);
        x.spring(1, 680);
        mossDue(x, 0, 0, 5);
        mossDue(x, 1, 1, 9);
        mossDue(x, 2, 1, 9);
        x.spring(1, 660);
        mossDue(x, 1, 0, 5);
        mossDue(x, 2, 3, 9);
        mossDue(x, 8, 3, 9);
        x.spring(1, 710);
        mossDue(x, 1, 0, 9);
        mossDue(x, 2, 3, 14);
        due("13: the lane stays", x.house(0, 1), 2);
        x = Check.withLane("b2r");
        x.spring(0, 10);
        x.spring(1, 660);
        mossDue(x, 1, 2, 9);
        mossDue(x, 0, 0, 5);
        // one great loss is as good as two small ones
        x = Check.withLane("1b1b2r");
        x.spring(0, 10);
        x.spring(1, 670);
        x.kind(0, 0, 1000);
        mossDue(x, 8, 4, 9);
    }

    private static void mossEdges() {
        HeatDown x = Check.withLane("9h");
        mossDue(x, 8, NONE, NONE);
        x.spring(1, 380);
        mossDue(x, 8, 0, 6);
        // With the loss l is too cold to keep h from harm.
        x = Check.withLane("1lh");
        x.spring(0, 10);
        x.spring(1, 510);
        x.kind(5, 2, 2500);
        x.kind(5, 0, 505);
        mossDue(x, 0, NONE, NONE);
        mossDue(x, 1, 1, 10);
        due("13: k 9", x.moss(0, 9, 0), OUTSIDE);
        due("13: k -1", x.moss(0, -1, 0), OUTSIDE);
        due("13: hour 6", x.moss(6, 0, 0), OUTSIDE);
        due("13: hour -1", x.moss(-1, 0, 0), OUTSIDE);
        due("13: what 2", x.moss(0, 0, 2), OUTSIDE);
        due("13: what -1", x.moss(0, 0, -1), OUTSIDE);
    }

    private static void cools() {
        HeatDown x = new HeatDown();
        due("14: b", x.cools(0, 0, 1), 380);
        due("14: nobody", x.cools(0, 0, 0), 0);
        due("14: warmth stays", x.told(11), 800);
        x.spring(2, 300);
        x.kind(0, 2, 9999);
        due("14: AIR", x.cools(0, 0, 1), 800);
        x.kind(0, 1, 799);
        due("14: AIR and MOST", x.cools(0, 0, 1), NONE);
        x.kind(0, 0, 1000);
        x.kind(0, 1, 1000);
        x.kind(0, 2, 0);
        due("14: the warmest", x.cools(0, 0, 1), 1000);
        x.kind(0, 4, 1);
        due("14: hour 1", x.cools(1, 0, 1), NONE);
        due("14: hour 0", x.cools(0, 0, 1), 1000);
        x = Check.withLane("2b2*r");
        // b takes 600 of 20 litres: 30 tenths; r needs 650 by 25 litres, of which the brook brings 400
        due("14: no brook", x.cools(0, 0, 3), 720);
        due("14: a brook", x.cools(0, 1, 3), 863);
        due("14: hour 6", x.cools(6, 0, 0), OUTSIDE);
        due("14: hour -1", x.cools(-1, 0, 0), OUTSIDE);
        due("14: brooks", x.cools(0, 2, 0), OUTSIDE);
        due("14: brooks -1", x.cools(0, -1, 0), OUTSIDE);
        due("14: draws", x.cools(0, 0, 4), OUTSIDE);
        due("14: draws -1", x.cools(0, 0, -1), OUTSIDE);
    }

    private static void put() {
        HeatDown x = Check.withLane("9b");
        x.spring(1, 700);
        // above the pipe r is served, behind it it is not
        due("15: above", x.put(0, 2, 0), 14);
        due("15: behind", x.put(0, 2, 1), 5);
        due("15: the lane stays", x.told(1), 1);
        due("15: its pipe stays", x.house(0, 1), 9);
        due("15: h is harmed", x.put(0, 4, 0), NONE);
        x.kind(2, 4, 61);
        due("15: hour 1", x.put(1, 2, 0), 5);
        due("15: place 2", x.put(0, 2, 2), UNKNOWN);
        due("15: place -1", x.put(0, 2, -1), UNKNOWN);
        due("15: kind 6", x.put(0, 6, 0), UNKNOWN);
        due("15: kind -1", x.put(9, -1, 0), UNKNOWN);
        due("15: UNKNOWN first", x.put(9, 0, 2), UNKNOWN);
        due("15: hour 6", x.put(6, 0, 0), OUTSIDE);
        due("15: hour -1", x.put(-1, 0, 0), OUTSIDE);
        x = Check.withLane("*b*h");
        x.spring(0, 10);
        x.spring(1, 400);
        x.spring(3, 10);
        x.spring(4, 0);
        x.kind(0, 0, 1000);
        // brooks stay ahead of their houses: a second h is harmed above the first brook, not behind it
        due("15: h above", x.put(0, 4, 0), NONE);
        due("15: h behind the first brook", x.put(0, 4, 1), 6);
        x = Check.withLane("bbbbbbb");
        due("15: the eighth", x.put(0, 0, 7), 40);
        x = Check.withLane("bbbbbbbb");
        due("15: FULL", x.put(0, 0, 8), FULL);
        due("15: UNKNOWN before FULL", x.put(0, 0, 9), UNKNOWN);
        due("15: OUTSIDE before FULL", x.put(6, 0, 0), OUTSIDE);
    }

    private static void where() {
        HeatDown x = Check.withLane("9b");
        x.spring(1, 700);
        due("16: r above", x.where(0, 2, 0), 0);
        due("16: WORTH", x.where(0, 2, 1), 14);
        due("16: h", x.where(0, 4, 0), NONE);
        due("16: WORTH of h", x.where(0, 4, 1), NONE);
        x.kind(4, 1, 620);
        due("16: h is harmed above the pipe", x.where(0, 4, 0), 1);
        due("16: WORTH of h behind it", x.where(0, 4, 1), 11);
        due("16: the first of several", x.where(0, 0, 0), 0);
        due("16: their WORTH", x.where(0, 0, 1), 10);
        due("16: the lane stays", x.told(1), 1);
        due("16: kind 6", x.where(9, 6, 9), UNKNOWN);
        due("16: kind -1", x.where(0, -1, 0), UNKNOWN);
        due("16: hour 6", x.where(6, 0, 0), OUTSIDE);
        due("16: hour -1", x.where(-1, 0, 0), OUTSIDE);
        due("16: what 2", x.where(0, 0, 2), OUTSIDE);
        due("16: what -1", x.where(0, 0, -1), OUTSIDE);
        x = Check.withLane("bbbbbbbb");
        due("16: FULL", x.where(0, 0, 0), FULL);
        due("16: OUTSIDE before FULL", x.where(0, 0, 2), OUTSIDE);
        due("16: UNKNOWN before FULL", x.where(0, 6, 0), UNKNOWN);
        x = Check.withLane("bbbbbbb");
        due("16: seven houses", x.where(0, 0, 1), 40);
    }

    private static void orderDue(HeatDown x, int hour, int worth, int... houses) {
        due("17: WORTH", x.order(hour, -1), worth);
        for (int i = 0; i < houses.length; i++) {
            due("17: the house at " + i, x.order(hour, i), houses[i]);
        }
    }

    private static void order() {
        HeatDown x = Check.withLane("brd");
        x.spring(0, 5);
        // 4000: r needs 3250 and takes 900, d needs 3000 and takes 1000, b needs 1900
        orderDue(x, 0, 22, 1, 2, 0);
        x.kind(2, 4, 62);
        // r wants nothing in hour 0; d must come before b
        orderDue(x, 0, 13, 0, 1, 2);
        x.spring(1, 700);
        orderDue(x, 0, 13, 1, 2, 0);
        due("17: the lane stays", x.house(0, 0), 0);
        // Pipes stay where they are: r goes ahead of the second one.
        x = Check.withLane("1b9r");
        x.spring(1, 700);
        orderDue(x, 0, 14, 1, 0);
        // Brooks are shut: both are served as they stand.
        x = Check.withLane("*r*b");
        orderDue(x, 0, 14, 0, 1);
        orderDue(new HeatDown(), 0, 5, 0);
        // not all who draw need be served
        x = new HeatDown();
        x.spring(1, 100);
        orderDue(x, 0, 0, 0);
    }

    private static void orderEdges() {
        HeatDown x = Check.withLane("hb");
        x.spring(0, 10);
        x.spring(1, 400);
        x.kind(0, 2, 1000);
        // h is harmed above b, which takes 1000 of 4000
        orderDue(x, 0, 11, 1, 0);
        x.spring(1, 401);
        orderDue(x, 0, NONE, NONE, NONE);
        due("17: i 2", x.order(0, 2), OUTSIDE);
        due("17: i -2", x.order(0, -2), OUTSIDE);
        due("17: i MIN", x.order(0, MIN), OUTSIDE);
        due("17: hour 6", x.order(6, 0), OUTSIDE);
        due("17: hour -1", x.order(-1, 0), OUTSIDE);
        x = Check.withLane("bbbbbbb");
        orderDue(x, 0, 35, 0, 1, 2, 3, 4, 5, 6);
        x = Check.withLane("bbbbbbbb");
        due("17: FULL", x.order(0, -1), FULL);
        due("17: FULL, i 7", x.order(0, 7), FULL);
        due("17: OUTSIDE before FULL", x.order(0, 8), OUTSIDE);
        due("17: hour before FULL", x.order(6, 0), OUTSIDE);
    }

    private static void felt() {
        HeatDown x = Check.withLane("bd");
        due("18: house 2", x.felt(2, 0, 0), UNKNOWN);
        due("18: house -1", x.felt(-1, 0, 0), UNKNOWN);
        due("18: UNKNOWN first", x.felt(2, 5, 4), UNKNOWN);
        due("18: low -1", x.felt(0, -1, 4), OUTSIDE);
        due("18: high 1001", x.felt(0, 0, 1001), OUTSIDE);
        due("18: low above high", x.felt(0, 5, 4), OUTSIDE);
        due("18: told", x.told(3), 0);
        due("18: first", x.felt(0, 0, 0), 1);
        due("18: second", x.felt(1, 1000, 1000), 2);
        for (int i = 3; i <= 6; i++) {
            due("18: " + i, x.felt(0, 0, 1000), i);
        }
        due("18: FULL", x.felt(0, 0, 1000), FULL);
        due("18: OUTSIDE before FULL", x.felt(0, 1, 0), OUTSIDE);
        due("18: UNKNOWN before FULL", x.felt(2, 0, 1000), UNKNOWN);
        due("18: told", x.told(3), 6);
        due("19: forget", x.forget(), 6);
        due("19: told", x.told(3), 0);
        due("19: forget again", x.forget(), 0);
        due("19: all fits again", x.fits(0, 0, -1), 1);
        due("19: from the first on", x.felt(0, 0, 0), 1);
    }

    private static void fitsDue(HeatDown x, int draws, int... sets) {
        due("20: how many", x.fits(0, draws, -1), sets.length);
        for (int i = 0; i < sets.length; i++) {
            due("20: set " + i, x.fits(0, draws, i), sets[i]);
        }
        due("20: past the last", x.fits(0, draws, sets.length), NONE);
        due("20: below -1", x.fits(0, draws, -2), NONE);
    }

    private static void fits() {
        HeatDown x = Check.withLane("*b*d");
        // at b 800, 656, 800, 656; at d 800, 656, 656, 560 (b takes 600: 770, 632, 632, 540)
        fitsDue(x, 0, 0, 1, 2, 3);
        x.felt(1, 560, 656);
        fitsDue(x, 0, 1, 2, 3);
        fitsDue(x, 1, 1, 2);
        x.felt(0, 800, 800);
        fitsDue(x, 0, 2);
        x.felt(0, 799, 799);
        fitsDue(x, 0);
        x.forget();
        x.felt(1, 657, 1000);
        fitsDue(x, 0, 0);
        due("20: hour 6", x.fits(6, 0, 0), OUTSIDE);
        due("20: hour -1", x.fits(-1, 0, -2), OUTSIDE);
        due("20: draws 4", x.fits(0, 4, -1), OUTSIDE);
        due("20: draws -1", x.fits(0, -1, -1), OUTSIDE);
        due("20: i MAX", x.fits(0, 0, MAX), NONE);
        due("20: i MIN", x.fits(0, 0, MIN), NONE);
        // cut: 6007 by 12 is 500 and a bit
        x = Check.withLane("*b");
        x.spring(0, 7);
        x.spring(1, 801);
        x.felt(0, 500, 500);
        fitsDue(x, 0, 1);
        x.forget();
        x.felt(0, 501, 501);
        fitsDue(x, 0);
        // hours: b takes in hour 0 alone
        x = Check.withLane("bd");
        x.kind(0, 4, 1);
        x.felt(1, 770, 770);
        due("20: hour 0", x.fits(0, 1, -1), 1);
        due("20: hour 1", x.fits(1, 1, -1), 0);
        x = Check.withLane("*b*b*b*b");
        due("20: all sets", x.fits(0, 0, -1), 16);
        due("20: the last", x.fits(0, 0, 15), 15);
    }

    private static void doorDue(HeatDown x, int draws, int house, int alike) {
        due("21: house", x.door(0, draws, 0), house);
        due("21: alike", x.door(0, draws, 1), alike);
    }

    private static void door() {
        HeatDown x = Check.withLane("*b*d");
        doorDue(x, 0, 0, 2);
        x.felt(0, 800, 800);
        doorDue(x, 0, 1, 1);
        x.felt(1, 0, 0);
        doorDue(x, 0, NONE, NONE);
        x = Check.withLane("b*d*rr");
        // at b all four are alike, at d two and two; at r 800, 656 twice, 560
        doorDue(x, 0, 1, 2);
        x.felt(1, 656, 656);
        doorDue(x, 0, 2, 1);
        // one brook ahead of both: the first house tells it already
        x = Check.withLane("*dr");
        doorDue(x, 1, 0, 1);
        doorDue(new HeatDown(), 1, 0, 1);
        due("21: what 2", x.door(0, 0, 2), OUTSIDE);
        due("21: what -1", x.door(0, 0, -1), OUTSIDE);
        due("21: hour 6", x.door(6, 0, 0), OUTSIDE);
        due("21: hour -1", x.door(-1, 0, 0), OUTSIDE);
        due("21: draws 4", x.door(0, 4, 0), OUTSIDE);
        due("21: draws -1", x.door(0, -1, 0), OUTSIDE);
    }

    private static void winterDue(HeatDown x, int seed, int days, int worth, int harmed) {
        due("22: WORTHS by " + days, x.winter(seed, days, 0), worth);
        due("22: HARMED by " + days, x.winter(seed, days, 1), harmed);
    }

    private static void winter() {
        HeatDown x = new HeatDown();
        // by seed 0 the days have 74, 24, 52, 190 tenths less
        winterDue(x, 0, 1, 30, 0);
        winterDue(x, 0, 30, 900, 0);
        x.kind(0, 0, 750);
        winterDue(x, 0, 1, 0, 0);
        winterDue(x, 0, 2, 30, 0);
        winterDue(x, 0, 3, 30, 0);
        x.kind(0, 0, 745);
        winterDue(x, 0, 4, 60, 0);
        x.kind(0, 4, 9);
        winterDue(x, 0, 4, 20, 0);
        due("22: the warmth stays", x.told(11), 800);
        // l, too cold by day, keeps h from harm by the warmth that was told
        x = Check.withLane("lh");
        x.spring(0, 10);
        x.kind(5, 0, 790);
        x.kind(5, 2, 6000);
        winterDue(x, 0, 1, 0, 6);
        winterDue(x, 0, 2, 0, 12);
        x.kind(5, 0, 770);
        // 776 by the second day: 1760 comes to h, too cold for it
        winterDue(x, 0, 2, 24, 6);
    }

    private static void winterEdges() {
        HeatDown x = Check.withLane("h");
        x.spring(1, 350);
        winterDue(x, 0, 1, 0, 0);
        x.spring(1, 400);
        winterDue(x, 0, 1, 0, 6);
        // nothing below 0 tenths
        x = new HeatDown();
        x.spring(1, 50);
        x.spring(2, 0);
        x.kind(0, 0, 0);
        x.kind(0, 2, 0);
        winterDue(x, 0, 1, 30, 0);
        due("22: seed -1", x.winter(-1, 1, 0), OUTSIDE);
        due("22: seed 10000", x.winter(10000, 1, 0), OUTSIDE);
        due("22: seed 9999", x.winter(9999, 1, 0), 30);
        due("22: days 0", x.winter(0, 0, 0), OUTSIDE);
        due("22: days 31", x.winter(0, 31, 0), OUTSIDE);
        due("22: days MAX", x.winter(0, MAX, 0), OUTSIDE);
        due("22: what 2", x.winter(0, 1, 2), OUTSIDE);
        due("22: what -1", x.winter(0, 1, -1), OUTSIDE);
    }

    private static void images() {
        HeatDown x = Check.withLane("3*b*d");
        x.spring(0, 33);
        x.kind(2, 3, 77);
        x.felt(1, 500, 600);
        Check.type(x, "rr");
        due("23: image(0)", x.image(0), 1);
        due("24: restore(1)", x.restore(1), STATE);
        due("24: restore(2)", x.restore(2), OUTSIDE);
        due("24: restore(-1)", x.restore(-1), OUTSIDE);
        due("23: image(2)", x.image(2), OUTSIDE);
        due("23: image(-1)", x.image(-1), OUTSIDE);
        due("24: a lane since", x.lane(), 2);
        x.spring(0, 44);
        x.kind(2, 3, 88);
        x.felt(0, 1, 2);
        x.felt(0, 3, 4);
        due("23: image(1)", x.image(1), 1);
        Check.type(x, "abc");
        due("24: restore(0)", x.restore(0), 1);
        due("24: the pad is as it was", x.told(0), 3);
        due("24: houses", x.told(1), 2);
        due("24: brooks", x.told(2), 2);
        due("24: felt", x.told(3), 1);
        due("24: flow", x.told(10), 33);
        due("24: worth", x.told(52), 77);
        due("24: kind of house", x.house(0, 0), 0);
        due("24: its loss", x.house(0, 1), 3);
        due("24: its brook", x.house(1, 2), 1);
        // 26400 - 990, with 5 litres of 80: 679; d feels 770 or 679, 679 or 613
        due("24: what was felt", x.fits(0, 0, -1), 0);
        x.spring(0, 10);
        due("24: what was felt, less flow", x.fits(0, 0, -1), 2);
        due("24: restore(1)", x.restore(1), 1);
        due("24: flow", x.told(10), 44);
        due("24: felt", x.told(3), 2);
        due("24: kind of house", x.house(1, 0), 2);
        due("24: brooks", x.told(2), 0);
        x.spring(0, 1);
        due("23: image(0) anew", x.image(0), 1);
        x.spring(0, 2);
        due("24: restore(0)", x.restore(0), 1);
        due("24: flow", x.told(10), 1);
        due("24: restore(1) still", x.restore(1), 1);
        due("24: flow", x.told(10), 44);
    }

    private static void told() {
        HeatDown x = Check.withLane("*b*d*r*cc");
        Check.type(x, "xyz");
        x.felt(0, 0, 0);
        due("25: signs", x.told(0), 3);
        due("25: houses", x.told(1), 5);
        due("25: brooks", x.told(2), 4);
        due("25: felt", x.told(3), 1);
        for (int what = -10; what <= 80; what++) {
            boolean known = what >= 0 && what <= 3 || what >= 10 && what <= 14
                || what >= 20 && what <= 69 && what % 10 <= 5;
            if (!known) {
                due("25: told(" + what + ")", x.told(what), OUTSIDE);
            }
        }
        due("25: told(MAX)", x.told(MAX), OUTSIDE);
        due("25: told(MIN)", x.told(MIN), OUTSIDE);
        x.spring(2, 222);
        x.kind(5, 1, 321);
        due("25: AIR", x.told(12), 222);
        due("25: MOST of 5", x.told(35), 321);
    }

    /** What README.md shows. */
    private static void readmeExample() {
        HeatDown x = new HeatDown();
        Check.type(x, "b2*h");
        due("README: lane()", x.lane(), 2);
        due("README: spring(1, 300)", x.spring(1, 300), 800);
        due("README: at(0, 1, 0, 1, 0)", x.at(0, 1, 0, 1, 0), 25);
        due("README: best(0, 0)", x.best(0, 0), 6);
        due("README: best(0, 2)", x.best(0, 2), 2);
        due("README: cools(0, 0, 2)", x.cools(0, 0, 2), 220);
        due("README: felt(1, 230, 250)", x.felt(1, 230, 250), 1);
        due("README: fits(0, 0, 0)", x.fits(0, 0, 0), 1);
        Check.type(x, "B/AB/1B///");
        due("README: judge(0)", x.judge(0), 1);
        due("README: judge(1)", x.judge(1), 0);
    }
}
