/** Promises 1 to 8: what is the last that is allowed, and the first that is not. */
public final class SpringEdgeTests {
    private static final int NONE = -6, UNKNOWN = -1, OUTSIDE = -2, FULL = -4, NO = -5;
    private static final int MIN = Integer.MIN_VALUE, MAX = Integer.MAX_VALUE;
    private static final Check CHECK = new Check("spring edges");

    private static final String KINDS = "bdrchl";
    private static final String EIGHT = "*b*d*r*chlbd";
    /** A lane with all that a lane may have: 8 pipes, 4 brooks, 8 houses. */
    private static final String WHOLE = "1*b2*d3*r4*c5h6l7b9d";

    public static void main(String[] args) {
        newLane();
        newHours();
        springRange(0, 1, 50, 20);
        springRange(1, 0, 1000, 800);
        springRange(2, 0, 300, 100);
        springRange(3, 1, 30, 5);
        springRange(4, 0, 300, 80);
        springsThereAre();
        springsReachTheWater();
        kindRange(0, 1000, 380, 600, 650, 150, 200, 500);
        kindRange(1, 1000, 1000, 1000, 1000, 350, 300, 1000);
        kindRange(2, 9999, 600, 1000, 900, 200, 100, 1200);
        kindRange(3, 99, 5, 8, 9, 3, 6, 4);
        kindRange(4, 63, 63, 63, 63, 63, 63, 63);
        kindsThereAre();
        needAndMostAreFree();
        signRange();
        fortyEightSigns();
        wipeEmptyAndFull();
        faultHow();
        firstSignOfLane();
        secondSignOfLane();
        firstSignOfDay();
        houseCount();
        brookCount();
        moreMustCome();
        dayHours();
        daySignsOnce();
        dayOfThoseThere();
        dayAtFullPad();
        laneTakesThePad();
        laneSigns();
        laneForgetsTheLast();
        laneRefused();
        housesThereAre();
        CHECK.end();
    }

    private static void due(String call, long got, long want) {
        CHECK.due(call, got, want);
    }

    private static int faultOf(HeatDown x, int how, String text) {
        Check.pad(x, text);
        return x.fault(how);
    }

    // ---- Promise 1

    private static void newLane() {
        HeatDown x = new HeatDown();
        due("1: one house", x.told(1), 1);
        due("1: of kind 0", x.house(0, 0), 0);
        due("1: no pipe", x.house(0, 1), 0);
        due("1: no brook ahead", x.house(0, 2), NONE);
        due("1: no second house", x.house(1, 0), UNKNOWN);
        due("1: no brook", x.told(2), 0);
        due("1: no brook to let in", x.run(0, 1, 0, 0), OUTSIDE);
        due("1: one house to draw", x.run(0, 0, 1, 0), 1);
        due("1: no second house to draw", x.run(0, 0, 2, 0), OUTSIDE);
        due("1: an empty pad, as a lane", x.fault(0), 0);
        due("1: an empty pad, as a day", x.fault(1), 0);
        due("1: an empty pad, wiped", x.wipe(), 0);
        due("1: nothing felt", x.told(3), 0);
        due("1: nothing felt, forgotten", x.forget(), 0);
        due("1: no image 0", x.restore(0), -3);
        due("1: no image 1", x.restore(1), -3);
    }

    private static void newHours() {
        HeatDown x = new HeatDown();
        for (int hour = 0; hour < 6; hour++) {
            due("1: 20 litres in hour " + hour, x.at(hour, 0, 1, 0, 0), 20);
            due("1: of 800 tenths in hour " + hour, x.at(hour, 0, 1, 0, 1), 16000);
            due("1: less 600 in hour " + hour, x.at(hour, 0, 1, 1, 1), 15400);
            due("1: nothing lost in hour " + hour, x.run(hour, 0, 1, 2), 0);
            due("1: best in hour " + hour, x.best(hour, 0), 5);
        }
    }

    // ---- Promise 2

    private static void springRange(int which, int low, int high, int first) {
        String name = "2: spring " + which + ": ";
        HeatDown x = new HeatDown();
        due(name + "at first", x.told(10 + which), first);
        due(name + "too small", x.spring(which, low - 1), OUTSIDE);
        due(name + "too large", x.spring(which, high + 1), OUTSIDE);
        due(name + "far too small", x.spring(which, MIN), OUTSIDE);
        due(name + "far too large", x.spring(which, MAX), OUTSIDE);
        due(name + "refused, it stays", x.told(10 + which), first);
        due(name + "the least answers the first", x.spring(which, low), first);
        due(name + "the least is kept", x.told(10 + which), low);
        due(name + "the most answers the least", x.spring(which, high), low);
        due(name + "the most is kept", x.told(10 + which), high);
        due(name + "the same answers itself", x.spring(which, high), high);
        due(name + "refused anew", x.spring(which, high + 1), OUTSIDE);
        due(name + "the most is still kept", x.told(10 + which), high);
        for (int other = 0; other < 5; other++) {
            if (other != which) {
                due(name + "leaves spring " + other, x.told(10 + other), new HeatDown().told(10 + other));
            }
        }
    }

    private static void springsThereAre() {
        HeatDown x = new HeatDown();
        due("2: the first there is", x.spring(0, 20), 20);
        due("2: the last there is", x.spring(4, 80), 80);
        due("2: below the first", x.spring(-1, 20), UNKNOWN);
        due("2: behind the last", x.spring(5, 20), UNKNOWN);
        due("2: far below", x.spring(MIN, 20), UNKNOWN);
        due("2: far behind", x.spring(MAX, 20), UNKNOWN);
        due("2: UNKNOWN ahead of OUTSIDE, below", x.spring(-1, -1), UNKNOWN);
        due("2: UNKNOWN ahead of OUTSIDE, behind", x.spring(5, 9999), UNKNOWN);
    }

    /** FLOW, WARMTH, AIR, BROOK, COLD at their most and least, as water. */
    private static void springsReachTheWater() {
        HeatDown x = Check.withLane("9*b");
        x.spring(0, 50);
        x.spring(1, 1000);
        x.spring(2, 300);
        x.spring(3, 30);
        x.spring(4, 300);
        due("2: the most litres", x.at(0, 1, 0, 0, 0), 80);
        due("2: the most heat", x.at(0, 1, 0, 0, 1), 50000 - 4500 + 9000);
        x.spring(1, 310);
        due("2: down to the warmest AIR", x.at(0, 0, 0, 0, 1), 15000);
        x.spring(0, 1);
        x.spring(1, 0);
        x.spring(2, 0);
        x.spring(3, 1);
        x.spring(4, 0);
        due("2: the fewest litres", x.at(0, 0, 0, 0, 0), 1);
        due("2: the fewest litres with a brook", x.at(0, 1, 0, 0, 0), 2);
        due("2: no heat at all", x.at(0, 1, 0, 0, 1), 0);
        x.spring(1, 89);
        due("2: down to the coldest AIR", x.at(0, 0, 0, 0, 1), 0);
    }

    // ---- Promise 3

    private static void kindRange(int what, int high, int... first) {
        for (int kind = 0; kind < 6; kind++) {
            String name = "3: kind " + kind + ", " + what + ": ";
            HeatDown x = new HeatDown();
            int told = 20 + 10 * what + kind;
            due(name + "at first", x.told(told), first[kind]);
            due(name + "too small", x.kind(kind, what, -1), OUTSIDE);
            due(name + "too large", x.kind(kind, what, high + 1), OUTSIDE);
            due(name + "far too small", x.kind(kind, what, MIN), OUTSIDE);
            due(name + "far too large", x.kind(kind, what, MAX), OUTSIDE);
            due(name + "refused, it stays", x.told(told), first[kind]);
            due(name + "the least answers the first", x.kind(kind, what, 0), first[kind]);
            due(name + "the least is kept", x.told(told), 0);
            due(name + "the most answers the least", x.kind(kind, what, high), 0);
            due(name + "the most is kept", x.told(told), high);
            due(name + "the same answers itself", x.kind(kind, what, high), high);
            HeatDown fresh = new HeatDown();
            for (int other = 20; other < 70; other++) {
                if (other != told) {
                    due(name + "leaves told(" + other + ")", x.told(other), fresh.told(other));
                }
            }
        }
    }

    private static void kindsThereAre() {
        HeatDown x = new HeatDown();
        due("3: below the first kind", x.kind(-1, 0, 0), UNKNOWN);
        due("3: behind the last kind", x.kind(6, 0, 0), UNKNOWN);
        due("3: far below", x.kind(MIN, 0, 0), UNKNOWN);
        due("3: far behind", x.kind(MAX, 0, 0), UNKNOWN);
        due("3: what below", x.kind(5, -1, 0), OUTSIDE);
        due("3: what behind", x.kind(5, 5, 0), OUTSIDE);
        due("3: what far below", x.kind(0, MIN, 0), OUTSIDE);
        due("3: what far behind", x.kind(0, MAX, 0), OUTSIDE);
        due("3: UNKNOWN ahead of OUTSIDE what, behind", x.kind(6, 5, 0), UNKNOWN);
        due("3: UNKNOWN ahead of OUTSIDE what, below", x.kind(-1, -1, 0), UNKNOWN);
        due("3: UNKNOWN ahead of OUTSIDE v, behind", x.kind(6, 0, 1001), UNKNOWN);
        due("3: UNKNOWN ahead of OUTSIDE v, below", x.kind(-1, 0, -1), UNKNOWN);
    }

    /** No sentence binds NEED to MOST: either may be set first, and NEED may be above MOST. */
    private static void needAndMostAreFree() {
        HeatDown x = new HeatDown();
        due("3: MOST below NEED", x.kind(0, 1, 379), 1000);
        due("3: NEED above MOST", x.kind(0, 0, 1000), 380);
        due("3: MOST 0", x.kind(0, 1, 0), 379);
        due("3: NEED is kept", x.told(20), 1000);
    }

    // ---- Promises 4, 5

    private static void signRange() {
        for (int sign = 33; sign <= 126; sign++) {
            HeatDown x = new HeatDown();
            due("4: sign " + sign, x.say(sign), 1);
            due("4: sign " + sign + " is there", x.told(0), 1);
        }
        int[] not = {32, 127, 0, -1, 31, 128, 255, 33 + 256, 98 + 65536, MIN, MAX};
        for (int sign : not) {
            HeatDown x = new HeatDown();
            due("4: no sign " + sign, x.say(sign), OUTSIDE);
            due("4: sign " + sign + " is not there", x.told(0), 0);
            due("4: a sign after " + sign, x.say(33), 1);
        }
    }

    private static void fortyEightSigns() {
        HeatDown x = new HeatDown();
        for (int i = 1; i <= 47; i++) {
            due("4: sign " + i, x.say(126), i);
        }
        due("4: the last that is allowed", x.say(33), 48);
        due("4: the first that is not", x.say(33), FULL);
        due("4: nor the next", x.say(98), FULL);
        due("4: 48 stay", x.told(0), 48);
        due("4: OUTSIDE ahead of FULL, below", x.say(32), OUTSIDE);
        due("4: OUTSIDE ahead of FULL, above", x.say(127), OUTSIDE);
        due("5: all 48 go", x.wipe(), 48);
        due("4: room again", x.say(98), 1);
    }

    private static void wipeEmptyAndFull() {
        HeatDown x = new HeatDown();
        due("5: nothing there", x.wipe(), 0);
        due("5: nothing there, again", x.wipe(), 0);
        x.say('b');
        due("5: one", x.wipe(), 1);
        due("5: none left", x.told(0), 0);
        due("5: none left to go", x.wipe(), 0);
        Check.type(x, "9*");
        x.wipe();
        Check.type(x, "b");
        due("5: what went is not in the lane", x.fault(0), NONE);
    }

    // ---- Promise 6

    private static void faultHow() {
        HeatDown x = new HeatDown();
        due("6: how below", x.fault(-1), OUTSIDE);
        due("6: how 0", x.fault(0), 0);
        due("6: how 1", x.fault(1), 0);
        due("6: how behind", x.fault(2), OUTSIDE);
        due("6: how far below", x.fault(MIN), OUTSIDE);
        due("6: how far behind", x.fault(MAX), OUTSIDE);
        Check.type(x, "b");
        due("6: how below, with signs", x.fault(-1), OUTSIDE);
        due("6: how behind, with signs", x.fault(2), OUTSIDE);
        due("6: a lane", x.fault(0), NONE);
        due("6: the same is no day", x.fault(1), 0);
        due("6: asking leaves the sign", x.told(0), 1);
    }

    private static boolean isIn(int sign, String signs) {
        return signs.indexOf(sign) >= 0;
    }

    /** Every sign there is, as the first of a lane: a kind is a lane, a digit or * wants more, others can not stand. */
    private static void firstSignOfLane() {
        for (int sign = 33; sign <= 126; sign++) {
            HeatDown x = new HeatDown();
            x.say(sign);
            int want = isIn(sign, KINDS) ? NONE : isIn(sign, "123456789*") ? 1 : 0;
            due("6: first sign " + sign + " of a lane", x.fault(0), want);
        }
    }

    /** Every sign there is behind a digit, behind *, behind both, behind a house. */
    private static void secondSignOfLane() {
        for (int sign = 33; sign <= 126; sign++) {
            boolean kind = isIn(sign, KINDS);
            boolean digit = isIn(sign, "123456789");
            String name = "6: sign " + sign;
            HeatDown x = new HeatDown();
            String text = String.valueOf((char) sign);
            due(name + " behind a digit", faultOf(x, 0, "4" + text), kind ? NONE : sign == '*' ? 2 : 1);
            due(name + " behind *", faultOf(x, 0, "*" + text), kind ? NONE : 1);
            due(name + " behind both", faultOf(x, 0, "4*" + text), kind ? NONE : 2);
            due(name + " behind a house", faultOf(x, 0, "b" + text), kind ? NONE : sign == '*' || digit ? 2 : 1);
            due(name + " behind 8 houses", faultOf(x, 0, EIGHT + text), 12);
        }
    }

    /** Every sign there is, as the first of a day: / and what there is want more, others can not stand. */
    private static void firstSignOfDay() {
        firstSignOfDayIn("b", "/A");
        firstSignOfDayIn("*b", "/1A");
        firstSignOfDayIn("bbbbbbb", "/ABCDEFG");
        firstSignOfDayIn("*b*b*bbbbbb", "/123ABCDEFGH");
        firstSignOfDayIn(WHOLE, "/1234ABCDEFGH");
    }

    private static void firstSignOfDayIn(String lane, String allowed) {
        HeatDown x = Check.withLane(lane);
        for (int sign = 33; sign <= 126; sign++) {
            x.wipe();
            x.say(sign);
            due("6: first sign " + sign + " of a day by " + lane, x.fault(1), isIn(sign, allowed) ? 1 : 0);
        }
    }

    private static void houseCount() {
        HeatDown x = new HeatDown();
        String houses = "";
        for (int count = 1; count <= 8; count++) {
            houses += KINDS.charAt(count % 6);
            due("6: houses " + count, faultOf(x, 0, houses), NONE);
            due("7: houses " + count, x.lane(), count);
        }
        due("6: a ninth house", faultOf(x, 0, houses + "b"), 8);
        due("7: a ninth house", x.lane(), NO);
        due("6: a ninth pipe", faultOf(x, 0, houses + "1"), 8);
        due("6: a ninth pipe and house", faultOf(x, 0, houses + "1b"), 8);
        due("6: a brook behind the eighth", faultOf(x, 0, houses + "*"), 8);
        due("6: a ninth house with a brook", faultOf(x, 0, houses + "*b"), 8);
        due("6: all that a lane may have", faultOf(x, 0, WHOLE), NONE);
        due("6: one more", faultOf(x, 0, WHOLE + "b"), 20);
    }

    private static void brookCount() {
        HeatDown x = new HeatDown();
        due("6: no brook", faultOf(x, 0, "b"), NONE);
        due("6: four brooks", faultOf(x, 0, "*b*b*b*b"), NONE);
        due("6: four brooks and a house", faultOf(x, 0, "*b*b*b*bb"), NONE);
        due("6: a fifth brook", faultOf(x, 0, "*b*b*b*b*b"), 8);
        due("6: a fifth brook behind houses", faultOf(x, 0, "*b*b*b*bbb*b"), 10);
        due("6: a fifth brook behind a pipe", faultOf(x, 0, "*b*b*b*b1*b"), 9);
        due("6: a pipe, where a fifth brook would be", faultOf(x, 0, "*b*b*b*b1b"), NONE);
        due("6: the fifth * alone", faultOf(x, 0, "*b*b*b*b*"), 8);
    }

    /** The number of signs, where the text is too short alone. */
    private static void moreMustCome() {
        HeatDown x = new HeatDown();
        due("6: nothing", faultOf(x, 0, ""), 0);
        due("6: a pipe alone", faultOf(x, 0, "9"), 1);
        due("6: a brook alone", faultOf(x, 0, "*"), 1);
        due("6: pipe and brook alone", faultOf(x, 0, "9*"), 2);
        due("6: a pipe behind a house", faultOf(x, 0, "b1"), 2);
        due("6: a brook behind a house", faultOf(x, 0, "b*"), 2);
        due("6: both behind a house", faultOf(x, 0, "b1*"), 3);
        due("6: a brook behind a pipe, not ahead", faultOf(x, 0, "*1b"), 1);
        due("6: the least LOSS", faultOf(x, 0, "1b"), NONE);
        due("6: the greatest LOSS", faultOf(x, 0, "9b"), NONE);
        due("6: LOSS 0 is not said", faultOf(x, 0, "0b"), 0);
        due("6: LOSS 10 is not to be said", faultOf(x, 0, "10b"), 1);
        due("6: the first of two faults", faultOf(x, 0, "bxx"), 1);
        due("6: a fault ahead of more that must come", faultOf(x, 0, "x*"), 0);
    }

    private static void dayHours() {
        HeatDown x = new HeatDown();
        due("6: no hour said", faultOf(x, 1, ""), 0);
        due("6: one hour", faultOf(x, 1, "A"), 1);
        due("6: five hours", faultOf(x, 1, "////"), 4);
        due("6: six hours", faultOf(x, 1, "/////"), NONE);
        due("6: seven hours", faultOf(x, 1, "//////"), 5);
        due("6: five hours with houses", faultOf(x, 1, "A/A/A/A/A"), 9);
        due("6: five hours and /", faultOf(x, 1, "A/A/A/A/A/"), NONE);
        due("6: six hours with houses", faultOf(x, 1, "A/A/A/A/A/A"), NONE);
        due("6: a seventh", faultOf(x, 1, "A/A/A/A/A/A/"), 11);
        due("6: the last hour alone", faultOf(x, 1, "/////A"), NONE);
        due("6: the first hour alone", faultOf(x, 1, "A/////"), NONE);
    }

    private static void daySignsOnce() {
        HeatDown x = Check.withLane("*b*d");
        due("6: in any order", faultOf(x, 1, "A1B2/2B1A/BA21/12AB/1A2B/A"), NONE);
        due("6: a house twice", faultOf(x, 1, "AA/////"), 1);
        due("6: a house twice, not side by side", faultOf(x, 1, "AB1A/////"), 3);
        due("6: a brook twice", faultOf(x, 1, "11/////"), 1);
        due("6: a brook twice, not side by side", faultOf(x, 1, "12AB1/////"), 4);
        due("6: twice in the last hour", faultOf(x, 1, "/////BB"), 6);
        due("6: once in each hour", faultOf(x, 1, "A1/A1/A1/A1/A1/A1"), NONE);
    }

    /** Brooks and houses of those there are: by the lane that is, not by one that was or is on the pad. */
    private static void dayOfThoseThere() {
        HeatDown x = Check.withLane(WHOLE);
        due("6: the last brook and house", faultOf(x, 1, "4H/////"), NONE);
        due("6: brook 5", faultOf(x, 1, "5/////"), 0);
        due("6: house I", faultOf(x, 1, "I/////"), 0);
        due("6: brook 0", faultOf(x, 1, "0/////"), 0);
        due("6: house @", faultOf(x, 1, "@/////"), 0);
        Check.pad(x, "*b");
        x.lane();
        due("6: fewer brooks now", faultOf(x, 1, "12/////"), 1);
        due("6: fewer houses now", faultOf(x, 1, "AB/////"), 1);
        due("6: those there are", faultOf(x, 1, "1A/////"), NONE);
    }

    private static void dayAtFullPad() {
        HeatDown x = Check.withLane(WHOLE);
        String three = "1234ABCDEFGH/1234ABCDEFGH/1234ABCDEFGH/";
        due("6: a day of 48 signs", faultOf(x, 1, three + "ABCDEFG//"), NONE);
        due("6: they are 48", x.told(0), 48);
        due("11: it is judged", x.judge(0) == NO ? 1 : 0, 0);
        due("6: 48 signs, and more must come", faultOf(x, 1, three + "ABCDEFGH/"), 48);
        due("6: they are 48", x.told(0), 48);
        due("6: the last of 48 can not stand", faultOf(x, 1, three + "ABCDEFG/I"), 47);
        due("6: 48 signs as a lane", x.fault(0), 1);
    }

    // ---- Promise 7

    private static void laneTakesThePad() {
        HeatDown x = new HeatDown();
        x.spring(1, 555);
        x.kind(3, 0, 44);
        x.felt(0, 0, 1000);
        Check.type(x, WHOLE);
        due("7: eight houses", x.lane(), 8);
        due("7: told houses", x.told(1), 8);
        due("7: told brooks", x.told(2), 4);
        due("7: the pad is empty", x.told(0), 0);
        due("7: what was felt went", x.told(3), 0);
        due("7: springs stay", x.told(11), 555);
        due("7: kinds stay", x.told(23), 44);
        int[] kinds = {0, 1, 2, 3, 4, 5, 0, 1};
        int[] losses = {1, 2, 3, 4, 5, 6, 7, 9};
        int[] brooks = {0, 1, 2, 3, NONE, NONE, NONE, NONE};
        for (int house = 0; house < 8; house++) {
            due("8: kind of " + house, x.house(house, 0), kinds[house]);
            due("8: loss ahead of " + house, x.house(house, 1), losses[house]);
            due("8: brook ahead of " + house, x.house(house, 2), brooks[house]);
        }
        Check.type(x, "b*b9b*b");
        x.lane();
        due("8: brooks are numbered from above, not by house", x.house(1, 2), 0);
        due("8: the second", x.house(3, 2), 1);
        due("8: none between", x.house(2, 2), NONE);
    }

    /** Each letter is its kind, each digit its loss. */
    private static void laneSigns() {
        for (int kind = 0; kind < 6; kind++) {
            due("8: kind of " + KINDS.charAt(kind), Check.withLane(KINDS.substring(kind, kind + 1)).house(0, 0), kind);
        }
        for (int loss = 1; loss <= 9; loss++) {
            due("8: loss of " + loss, Check.withLane("b" + loss + "b").house(1, 1), loss);
            due("8: loss of " + loss + " with a brook", Check.withLane("b" + loss + "*b").house(1, 1), loss);
        }
    }

    private static void laneForgetsTheLast() {
        HeatDown x = Check.withLane(WHOLE);
        Check.type(x, "l");
        due("7: one house", x.lane(), 1);
        due("7: no loss is left over", x.house(0, 1), 0);
        due("7: no brook is left over", x.house(0, 2), NONE);
        due("7: its kind", x.house(0, 0), 5);
        due("7: no brooks", x.told(2), 0);
        due("7: no house 1", x.house(1, 0), UNKNOWN);
        Check.type(x, "9*");
        x.wipe();
        Check.type(x, "l");
        x.lane();
        due("7: no loss of wiped signs", x.house(0, 1), 0);
    }

    private static void laneRefused() {
        HeatDown x = Check.withLane("3*b");
        due("7: an empty pad", x.lane(), NO);
        String[] faulty = {"x", "9", "*", "bb*", "bbbbbbbbb", "*b*b*b*b*b", "A/////"};
        x.felt(0, 1, 2);
        for (String text : faulty) {
            Check.pad(x, text);
            due("7: NO by " + text, x.lane(), NO);
            due("7: the signs stay", x.told(0), text.length());
            due("7: houses stay", x.told(1), 1);
            due("7: brooks stay", x.told(2), 1);
            due("7: the loss stays", x.house(0, 1), 3);
            due("7: what was felt stays", x.told(3), 1);
        }
    }

    // ---- Promise 8

    private static void housesThereAre() {
        HeatDown x = Check.withLane(WHOLE);
        due("8: the first", x.house(0, 0), 0);
        due("8: the last", x.house(7, 0), 1);
        due("8: below the first", x.house(-1, 0), UNKNOWN);
        due("8: behind the last", x.house(8, 0), UNKNOWN);
        due("8: far below", x.house(MIN, 0), UNKNOWN);
        due("8: far behind", x.house(MAX, 0), UNKNOWN);
        due("8: what below", x.house(7, -1), OUTSIDE);
        due("8: the last what", x.house(7, 2), NONE);
        due("8: what behind", x.house(7, 3), OUTSIDE);
        due("8: what far below", x.house(0, MIN), OUTSIDE);
        due("8: what far behind", x.house(0, MAX), OUTSIDE);
        due("8: UNKNOWN ahead of OUTSIDE, behind", x.house(8, 3), UNKNOWN);
        due("8: UNKNOWN ahead of OUTSIDE, below", x.house(-1, -1), UNKNOWN);
        HeatDown one = new HeatDown();
        due("8: the only one", one.house(0, 0), 0);
        due("8: no other", one.house(1, 0), UNKNOWN);
    }
}
