/** Promises 9 to 12, and the rules of pipes, brooks and houses: each bound, what lies on it and what lies past it. */
public final class HourEdgeTests {
    private static final int NONE = -6, UNKNOWN = -1, OUTSIDE = -2, NO = -5;
    private static final int MIN = Integer.MIN_VALUE, MAX = Integer.MAX_VALUE;
    private static final Check CHECK = new Check("hour edges");

    /** 8 pipes, 4 brooks, 8 houses. */
    private static final String WHOLE = "1*b2*d3*r4*c5h6l7b9d";

    public static void main(String[] args) {
        pipesDownToAir();
        pipesByLitres();
        brooks();
        brooksOneByOne();
        harmedAboveMost();
        servedFromNeed();
        servedDownToAir();
        servedWantingNothing();
        servedInItsHours();
        servedIfItDraws();
        whatTheHouseTakes();
        atHouses();
        atHours();
        atBits();
        atWhat();
        atWhichFirst();
        runAll();
        runNothing();
        runRefused();
        judgeHours();
        judgeHouses();
        judgeBothSorts();
        judgeBrooks();
        judgeSigns();
        judgeRefused();
        bestWorth();
        bestOfSeveral();
        bestNeedsBrooks();
        bestByTheRules();
        bestNone();
        bestRefused();
        CHECK.end();
    }

    private static void due(String call, long got, long want) {
        CHECK.due(call, got, want);
    }

    // ---- A PIPE, a BROOK

    private static void pipeDue(int warmth, int loss, int behind) {
        HeatDown x = Check.oneLitre(loss == 0 ? "b" : loss + "b", warmth);
        x.spring(2, 100);
        due("9: Q behind a pipe of " + loss + " from " + warmth, x.at(0, 0, 0, 0, 1), behind);
        due("9: F behind it", x.at(0, 0, 0, 0, 0), 1);
        due("10: lost in it", x.run(0, 0, 0, 2), warmth - behind);
    }

    private static void pipesDownToAir() {
        pipeDue(1000, 0, 1000);
        pipeDue(1000, 1, 990);
        pipeDue(1000, 9, 910);
        pipeDue(132, 3, 102);
        pipeDue(131, 3, 101);
        pipeDue(130, 3, 100);
        pipeDue(129, 3, 100);
        pipeDue(101, 3, 100);
        pipeDue(100, 3, 100);
        pipeDue(99, 3, 99);
        pipeDue(99, 0, 99);
        pipeDue(71, 3, 71);
        pipeDue(0, 9, 0);
        pipeDue(0, 0, 0);
        HeatDown x = Check.oneLitre("9b9b", 91);
        due("9: no AIR, one tenth stays", x.at(0, 0, 0, 0, 1), 1);
        due("9: no AIR, nothing below 0", x.at(0, 0, 0, 1, 1), 0);
    }

    /** By many litres the loss and AIR are by litre. */
    private static void pipesByLitres() {
        HeatDown x = Check.withLane("3*b2d");
        x.spring(0, 50);
        x.spring(1, 1000);
        x.spring(3, 30);
        x.spring(4, 0);
        due("9: 50 litres lose 30 tenths", x.at(0, 0, 0, 0, 1), 48500);
        due("9: 80 litres lose 20 tenths", x.at(0, 1, 0, 1, 1), 48500 - 1600);
        due("9: 50 litres lose 20 tenths", x.at(0, 0, 0, 1, 1), 48500 - 1000);
        x.spring(2, 300);
        x.spring(1, 329);
        due("9: 50 litres of AIR", x.at(0, 0, 0, 0, 1), 15000);
        due("9: 80 litres below AIR stay", x.at(0, 1, 0, 1, 1), 15000);
        due("10: what 50 litres lost", x.run(0, 1, 0, 2), 1450);
    }

    private static void brooks() {
        HeatDown x = Check.oneLitre("2*b", 100);
        x.spring(3, 30);
        x.spring(4, 300);
        due("9: F without the brook", x.at(0, 0, 0, 0, 0), 1);
        due("9: Q without the brook", x.at(0, 0, 0, 0, 1), 80);
        due("9: F with it", x.at(0, 1, 0, 0, 0), 31);
        due("9: Q with it, behind the pipe", x.at(0, 1, 0, 0, 1), 80 + 9000);
        due("10: the pipe lost by one litre", x.run(0, 1, 0, 2), 20);
        x.spring(3, 1);
        x.spring(4, 0);
        due("9: F with the least brook", x.at(0, 1, 0, 0, 0), 2);
        due("9: Q with the coldest brook", x.at(0, 1, 0, 0, 1), 80);
    }

    /** The i-th bit lets in the i-th brook from above, and no other. */
    private static void brooksOneByOne() {
        HeatDown x = Check.oneLitre("b*b*bb*b*b", 700);
        int[] housesAhead = {1, 2, 4, 5};
        for (int brook = 0; brook < 4; brook++) {
            for (int house = 0; house <= 6; house++) {
                due("9: F at " + house + " by brook " + brook,
                    x.at(0, 1 << brook, 0, house, 0), house < housesAhead[brook] ? 1 : 2);
            }
        }
        due("9: all four", x.at(0, 15, 0, 6, 0), 5);
        due("9: three at the last but one", x.at(0, 15, 0, 4, 0), 4);
        due("9: none", x.at(0, 0, 0, 6, 0), 1);
    }

    // ---- HARMED, SERVED

    /** What run tells of one house of one litre: 1 it is served, 2 harmed, 3 both, 0 neither. */
    private static int fate(HeatDown x, int hour, int draws) {
        return x.run(hour, 0, draws, 0) + 2 * x.run(hour, 0, draws, 1);
    }

    private static void harmedAboveMost() {
        HeatDown x = Check.oneLitre("b", 500);
        x.kind(0, 1, 501);
        due("10: below MOST", fate(x, 0, 1), 1);
        x.kind(0, 1, 500);
        due("10: MOST just so", fate(x, 0, 1), 1);
        due("10: MOST just so, not drawing", fate(x, 0, 0), 0);
        x.kind(0, 1, 499);
        due("10: one above MOST", fate(x, 0, 1), 2);
        due("10: one above MOST, not drawing", fate(x, 0, 0), 2);
        x.kind(0, 4, 0);
        due("10: one above MOST, wanting nothing", fate(x, 0, 1), 2);
        x = Check.oneLitre("b", 0);
        x.kind(0, 1, 0);
        due("10: MOST 0, Q 0", fate(x, 0, 1), 1);
        x.spring(1, 1);
        due("10: MOST 0, Q 1", fate(x, 0, 1), 2);
        x = Check.oneLitre("*b", 999);
        x.kind(0, 1, 500);
        due("10: harmed without the brook", x.run(0, 0, 0, 1), 1);
        due("10: 999 by two litres", x.run(0, 1, 0, 1), 0);
        x.kind(0, 1, 499);
        due("10: 999 by two litres, one above MOST", x.run(0, 1, 0, 1), 1);
    }

    private static void servedFromNeed() {
        HeatDown x = Check.oneLitre("*b", 500);
        x.kind(0, 0, 499);
        due("10: above NEED", fate(x, 0, 1), 1);
        x.kind(0, 0, 500);
        due("10: NEED just so", fate(x, 0, 1), 1);
        x.kind(0, 0, 501);
        due("10: one below NEED", fate(x, 0, 1), 0);
        x.kind(0, 0, 250);
        due("10: NEED just so by two litres", x.run(0, 1, 1, 0), 1);
        x.spring(1, 499);
        due("10: one below NEED by two litres", x.run(0, 1, 1, 0), 0);
        x.kind(0, 0, 0);
        x.spring(1, 0);
        due("10: NEED 0, Q 0", fate(x, 0, 1), 1);
        x.kind(0, 0, 600);
        x.kind(0, 1, 500);
        x.spring(1, 550);
        due("10: below NEED and above MOST", fate(x, 0, 1), 2);
        // WANT is taken after NEED has been looked at
        x = Check.oneLitre("b", 500);
        Check.values(x, 0, 500, 1000, 500, 1);
        due("10: NEED is ahead of what is taken", fate(x, 0, 1), 1);
    }

    private static void servedDownToAir() {
        HeatDown x = Check.oneLitre("*b", 500);
        x.spring(2, 300);
        x.kind(0, 2, 199);
        due("10: above AIR", fate(x, 0, 1), 1);
        x.kind(0, 2, 200);
        due("10: down to AIR just so", fate(x, 0, 1), 1);
        due("9: AIR stays", x.at(0, 0, 1, 1, 1), 300);
        x.kind(0, 2, 201);
        due("10: one below AIR", fate(x, 0, 1), 0);
        due("9: nothing is taken", x.at(0, 0, 1, 1, 1), 500);
        // two litres: 500 and 300 of the brook, AIR 600
        x.spring(4, 300);
        x.kind(0, 2, 200);
        due("10: down to AIR by two litres", x.run(0, 1, 1, 0), 1);
        x.kind(0, 2, 201);
        due("10: one below AIR by two litres", x.run(0, 1, 1, 0), 0);
        x.spring(2, 0);
        x.kind(0, 2, 500);
        due("10: no AIR, all is taken", fate(x, 0, 1), 1);
        due("9: nothing is left", x.at(0, 0, 1, 1, 1), 0);
        x.kind(0, 2, 501);
        due("10: no AIR, one too many", fate(x, 0, 1), 0);
    }

    /** A WANT of 0 is served like others, and takes nothing. */
    private static void servedWantingNothing() {
        HeatDown x = Check.oneLitre("b", 300);
        x.spring(2, 300);
        due("10: WANT 0 at AIR", fate(x, 0, 1), 1);
        due("10: nothing taken", x.run(0, 0, 1, 3), 0);
        x.spring(1, 299);
        due("10: WANT 0 below AIR", fate(x, 0, 1), 0);
        x = Check.withLane("b");
        x.spring(0, 50);
        x.spring(1, 1000);
        x.kind(0, 2, 9999);
        due("10: the most WANT", x.run(0, 0, 1, 3), 9999);
        due("9: less the most WANT", x.at(0, 0, 1, 1, 1), 50000 - 9999);
    }

    private static void servedInItsHours() {
        HeatDown x = Check.oneLitre("b", 500);
        int[] hours = {0, 63, 1, 32, 30, 31, 62, 21, 42};
        for (int bits : hours) {
            x.kind(0, 4, bits);
            for (int hour = 0; hour < 6; hour++) {
                due("10: HOURS " + bits + " in hour " + hour, fate(x, hour, 1), bits >> hour & 1);
            }
        }
    }

    private static void servedIfItDraws() {
        HeatDown x = Check.oneLitre("bbbbbbbb", 500);
        for (int house = 0; house < 8; house++) {
            due("10: house " + house + " alone", x.run(0, 0, 1 << house, 0), 1 << house);
        }
        due("10: nobody", x.run(0, 0, 0, 0), 0);
        due("10: all", x.run(0, 0, 255, 0), 255);
        due("10: every second", x.run(0, 0, 0xAA, 0), 0xAA);
    }

    private static void whatTheHouseTakes() {
        HeatDown x = Check.oneLitre("bd", 500);
        x.kind(0, 2, 60);
        due("9: served, it takes WANT", x.at(0, 0, 1, 1, 1), 440);
        due("9: ahead of it nothing is taken", x.at(0, 0, 1, 0, 1), 500);
        due("9: F stays", x.at(0, 0, 1, 1, 0), 1);
        due("9: not drawing", x.at(0, 0, 2, 1, 1), 500);
        x.kind(0, 1, 499);
        due("9: harmed, it takes nothing", x.at(0, 0, 1, 1, 1), 500);
        due("10: nothing taken by the harmed", x.run(0, 0, 1, 3), 0);
        x.kind(0, 1, 1000);
        x.kind(0, 0, 501);
        due("9: too cold, it takes nothing", x.at(0, 0, 1, 1, 1), 500);
        due("10: nothing taken by the cold", x.run(0, 0, 1, 3), 0);
        x.kind(0, 0, 0);
        x.kind(0, 4, 62);
        due("9: wanting nothing, it takes nothing", x.at(0, 0, 1, 1, 1), 500);
        due("9: in another hour it takes", x.at(1, 0, 1, 1, 1), 440);
        // what the first takes is not there for the second
        x.kind(1, 0, 441);
        due("10: the second is too cold", x.run(1, 0, 3, 0), 1);
        x.kind(1, 0, 440);
        due("10: the second is just warm enough", x.run(1, 0, 3, 0), 3);
        x.kind(1, 1, 440);
        due("10: the second is kept from harm", x.run(1, 0, 3, 1), 0);
        due("10: the second is harmed", x.run(1, 0, 2, 1), 2);
    }

    // ---- Promise 9

    private static void atHouses() {
        HeatDown x = Check.withLane(WHOLE);
        due("9: the first house", x.at(0, 0, 0, 0, 0), 20);
        due("9: the last house", x.at(0, 0, 0, 7, 0), 20);
        due("9: the end", x.at(0, 0, 0, 8, 0), 20);
        due("9: behind the end", x.at(0, 0, 0, 9, 0), UNKNOWN);
        due("9: above the first", x.at(0, 0, 0, -1, 0), UNKNOWN);
        due("9: far behind", x.at(0, 0, 0, MAX, 0), UNKNOWN);
        due("9: far above", x.at(0, 0, 0, MIN, 0), UNKNOWN);
        HeatDown one = new HeatDown();
        due("9: the only house", one.at(0, 0, 0, 0, 1), 16000);
        due("9: its end", one.at(0, 0, 0, 1, 1), 16000);
        due("9: behind its end", one.at(0, 0, 0, 2, 1), UNKNOWN);
        due("9: the end, less what the last takes", one.at(0, 0, 1, 1, 1), 15400);
    }

    private static void atHours() {
        HeatDown x = new HeatDown();
        due("9: the first hour", x.at(0, 0, 0, 0, 0), 20);
        due("9: the last hour", x.at(5, 0, 0, 0, 0), 20);
        due("9: ahead of the first", x.at(-1, 0, 0, 0, 0), OUTSIDE);
        due("9: behind the last", x.at(6, 0, 0, 0, 0), OUTSIDE);
        due("9: far ahead", x.at(MIN, 0, 0, 0, 0), OUTSIDE);
        due("9: far behind", x.at(MAX, 0, 0, 0, 0), OUTSIDE);
    }

    private static void atBits() {
        String[] lanes = {"b", "*b", "*b*d", "*b*d*r", WHOLE};
        for (String lane : lanes) {
            HeatDown x = Check.withLane(lane);
            int brookSets = 1 << x.told(2);
            int houseSets = 1 << x.told(1);
            due("9: all brooks of " + lane, x.at(0, brookSets - 1, 0, 0, 1) < 0 ? 1 : 0, 0);
            due("9: one more", x.at(0, brookSets, 0, 0, 1), OUTSIDE);
            due("9: brooks below", x.at(0, -1, 0, 0, 1), OUTSIDE);
            due("9: all houses of " + lane, x.at(0, 0, houseSets - 1, 0, 1) < 0 ? 1 : 0, 0);
            due("9: one more", x.at(0, 0, houseSets, 0, 1), OUTSIDE);
            due("9: draws below", x.at(0, 0, -1, 0, 1), OUTSIDE);
            due("9: far too many brooks", x.at(0, MAX, 0, 0, 1), OUTSIDE);
            due("9: brooks far below", x.at(0, MIN, 0, 0, 1), OUTSIDE);
            due("9: far too many draws", x.at(0, 0, MAX, 0, 1), OUTSIDE);
            due("9: draws far below", x.at(0, 0, MIN, 0, 1), OUTSIDE);
        }
    }

    private static void atWhat() {
        HeatDown x = new HeatDown();
        due("9: F", x.at(0, 0, 0, 1, 0), 20);
        due("9: Q", x.at(0, 0, 0, 1, 1), 16000);
        due("9: what below", x.at(0, 0, 0, 1, -1), OUTSIDE);
        due("9: what behind", x.at(0, 0, 0, 1, 2), OUTSIDE);
        due("9: what far below", x.at(0, 0, 0, 1, MIN), OUTSIDE);
        due("9: what far behind", x.at(0, 0, 0, 1, MAX), OUTSIDE);
    }

    private static void atWhichFirst() {
        HeatDown x = new HeatDown();
        due("9: UNKNOWN ahead of OUTSIDE hour", x.at(6, 0, 0, 2, 0), UNKNOWN);
        due("9: UNKNOWN ahead of OUTSIDE brooks", x.at(0, 1, 0, 2, 0), UNKNOWN);
        due("9: UNKNOWN ahead of OUTSIDE draws", x.at(0, 0, 2, 2, 0), UNKNOWN);
        due("9: UNKNOWN ahead of OUTSIDE what", x.at(0, 0, 0, 2, 2), UNKNOWN);
        due("9: UNKNOWN below ahead of OUTSIDE", x.at(-1, -1, -1, -1, -1), UNKNOWN);
    }

    // ---- Promise 10

    private static void runAll() {
        HeatDown x = Check.oneLitre("1*b1*b1*b1*b1b1b1b1b", 1000);
        x.kind(0, 2, 100);
        due("10: all eight are served", x.run(5, 0, 255, 0), 255);
        due("10: nobody is harmed", x.run(5, 0, 255, 1), 0);
        due("10: lost in eight pipes", x.run(5, 0, 255, 2), 80);
        due("10: taken by eight", x.run(5, 0, 255, 3), 800);
        due("10: lost by more and more litres", x.run(5, 15, 0, 2), 10 + 20 + 30 + 40 + 50 + 50 + 50 + 50);
        x.kind(0, 1, 0);
        due("10: all eight are harmed", x.run(0, 0, 255, 1), 255);
        due("10: nobody is served", x.run(0, 0, 255, 0), 0);
        due("10: nothing is taken", x.run(0, 0, 255, 3), 0);
    }

    private static void runNothing() {
        HeatDown x = new HeatDown();
        due("10: nobody draws, nobody is served", x.run(0, 0, 0, 0), 0);
        due("10: nobody is harmed", x.run(0, 0, 0, 1), 0);
        due("10: no pipe, nothing is lost", x.run(0, 0, 0, 2), 0);
        due("10: nothing is taken", x.run(0, 0, 0, 3), 0);
        due("10: nothing is left over from the last call", x.run(0, 0, 1, 3), 600);
        due("10: nothing is left over from the last call", x.run(0, 0, 0, 3), 0);
    }

    private static void runRefused() {
        HeatDown x = Check.withLane(WHOLE);
        // 16200 by 25, 15500 by 30, 15000 by 35, 14000 by 40 (MOST of c just so), 11800 by 40
        due("10: the last hour", x.run(5, 15, 255, 0), 1 + 8 + 16);
        due("10: nobody is harmed in it", x.run(5, 15, 255, 1), 0);
        due("10: hour below", x.run(-1, 0, 0, 0), OUTSIDE);
        due("10: hour behind", x.run(6, 0, 0, 0), OUTSIDE);
        due("10: hour far below", x.run(MIN, 0, 0, 0), OUTSIDE);
        due("10: hour far behind", x.run(MAX, 0, 0, 0), OUTSIDE);
        due("10: brooks below", x.run(0, -1, 0, 0), OUTSIDE);
        due("10: brooks behind", x.run(0, 16, 0, 0), OUTSIDE);
        due("10: brooks far below", x.run(0, MIN, 0, 0), OUTSIDE);
        due("10: draws below", x.run(0, 0, -1, 0), OUTSIDE);
        due("10: draws behind", x.run(0, 0, 256, 0), OUTSIDE);
        due("10: draws far below", x.run(0, 0, MIN, 0), OUTSIDE);
        due("10: what below", x.run(0, 0, 0, -1), OUTSIDE);
        due("10: what behind", x.run(0, 0, 0, 4), OUTSIDE);
        due("10: what far below", x.run(0, 0, 0, MIN), OUTSIDE);
        due("10: what far behind", x.run(0, 0, 0, MAX), OUTSIDE);
        due("10: the last what", x.run(0, 0, 0, 3), 0);
        HeatDown one = new HeatDown();
        due("10: no brook at all", one.run(0, 1, 0, 0), OUTSIDE);
        due("10: one house alone", one.run(0, 0, 2, 0), OUTSIDE);
    }

    // ---- Promise 11

    private static void judgedAs(HeatDown x, String day, int hour, int house) {
        Check.pad(x, day);
        due("11: hour of " + day, x.judge(0), hour);
        due("11: house of " + day, x.judge(1), house);
        due("11: " + day + " stays on the pad", x.told(0), day.length());
    }

    private static void judgeHours() {
        HeatDown x = Check.oneLitre("bd", 500);
        judgedAs(x, "/////", NONE, NONE);
        judgedAs(x, "AB/AB/AB/AB/AB/AB", NONE, NONE);
        x.kind(1, 4, 0);
        judgedAs(x, "B/////", 0, 1);
        judgedAs(x, "A/A/A/A/A/B", 5, 1);
        judgedAs(x, "A/A/B/A/B/B", 2, 1);
        x.kind(1, 4, 62);
        judgedAs(x, "AB/B/B/B/B/B", 0, 1);
        judgedAs(x, "A/B/B/B/B/B", NONE, NONE);
        x.kind(1, 4, 31);
        judgedAs(x, "B/B/B/B/B/B", 5, 1);
        judgedAs(x, "B/B/B/B/B/", NONE, NONE);
    }

    private static void judgeHouses() {
        HeatDown x = Check.oneLitre("bbbbbbbb", 500);
        x.kind(0, 0, 501);
        judgedAs(x, "H/////", 0, 7);
        judgedAs(x, "HGF/////", 0, 5);
        judgedAs(x, "HA/////", 0, 0);
        // a house of an earlier hour comes first, though it stands lower
        judgedAs(x, "/H/A///", 1, 7);
        // each takes 100: the sixth finds nothing
        Check.values(x, 0, 0, 1000, 100, 1);
        judgedAs(x, "/ABCDE///ABCDEF/", 4, 5);
    }

    private static void judgeBothSorts() {
        HeatDown x = Check.oneLitre("bdr", 500);
        x.kind(1, 1, 499);
        judgedAs(x, "/////", 0, 1);
        judgedAs(x, "AC/////", 0, 1);
        x.kind(0, 4, 0);
        judgedAs(x, "/A////", 0, 1);
        judgedAs(x, "A/////", 0, 0);
        x.kind(1, 1, 1000);
        x.kind(2, 1, 499);
        x.kind(1, 0, 501);
        judgedAs(x, "B/////", 0, 1);
        judgedAs(x, "C/////", 0, 2);
        // the harmed house is kept from harm by what the house above it takes
        x.kind(0, 4, 63);
        x.kind(0, 2, 1);
        judgedAs(x, "A/A/A/A/A/A", NONE, NONE);
        judgedAs(x, "A/A/A//A/A", 3, 2);
    }

    private static void judgeBrooks() {
        HeatDown x = Check.oneLitre("*b*b*b*b", 500);
        x.kind(0, 1, 499);
        judgedAs(x, "1/1/1/1/1/1", NONE, NONE);
        judgedAs(x, "1/1/2/1/1/1", 2, 0);
        x.kind(0, 1, 1000);
        x.kind(0, 0, 100);
        judgedAs(x, "1234ABCD/1234ABCD/1234ABCD/ABCD/1D/4D", NONE, NONE);
        x.kind(0, 0, 101);
        judgedAs(x, "ABCD/123ABCD/1234ABC/4D/1234ABCD/1234D", 4, 3);
    }

    /** 1 to 4 are the brooks 0 to 3, A to H the houses 0 to 7. */
    private static void judgeSigns() {
        HeatDown x = Check.oneLitre("bbbbbbbb", 500);
        x.kind(0, 0, 501);
        for (int house = 0; house < 8; house++) {
            judgedAs(x, "//" + (char) ('A' + house) + "///", 2, house);
        }
        // the brook ahead of house 1, 2, 3 or 4 is let in: that house is the first too cold
        x = Check.oneLitre("b*b*b*b*b", 500);
        x.kind(0, 0, 500);
        judgedAs(x, "ABCDE/////", NONE, NONE);
        for (int brook = 0; brook < 4; brook++) {
            judgedAs(x, "ABCDE" + (char) ('1' + brook) + "/////", 0, brook + 1);
        }
    }

    private static void judgeRefused() {
        HeatDown x = new HeatDown();
        due("11: an empty pad is no day", x.judge(0), NO);
        due("11: nor for the house", x.judge(1), NO);
        due("11: OUTSIDE ahead of NO, below", x.judge(-1), OUTSIDE);
        due("11: OUTSIDE ahead of NO, behind", x.judge(2), OUTSIDE);
        Check.pad(x, "////");
        due("11: five hours", x.judge(0), NO);
        Check.pad(x, "//////");
        due("11: seven hours", x.judge(0), NO);
        Check.pad(x, "B/////");
        due("11: no house B", x.judge(0), NO);
        Check.pad(x, "1/////");
        due("11: no brook 1", x.judge(0), NO);
        Check.pad(x, "b");
        due("11: a lane is no day", x.judge(0), NO);
        Check.pad(x, "/////");
        due("11: a day", x.judge(0), NONE);
        due("11: what below", x.judge(-1), OUTSIDE);
        due("11: what behind", x.judge(2), OUTSIDE);
        due("11: what far below", x.judge(MIN), OUTSIDE);
        due("11: what far behind", x.judge(MAX), OUTSIDE);
    }

    // ---- Promise 12

    private static void bestDue(String name, HeatDown x, int hour, int worth, int brooks, int draws) {
        due("12: " + name + ": WORTH", x.best(hour, 0), worth);
        due("12: " + name + ": BROOKS", x.best(hour, 1), brooks);
        due("12: " + name + ": DRAWS", x.best(hour, 2), draws);
    }

    private static void bestWorth() {
        HeatDown x = Check.oneLitre("bbbbbbbb", 500);
        x.kind(0, 3, 99);
        bestDue("all eight draw", x, 0, 792, 0, 255);
        x.kind(0, 2, 100);
        bestDue("water for five", x, 0, 495, 0, 31);
        x.kind(0, 2, 501);
        bestDue("water for none", x, 0, 0, 0, 0);
        x.kind(0, 2, 0);
        x.kind(0, 3, 0);
        bestDue("nobody is worth anything", x, 0, 0, 0, 0);
        x.kind(0, 3, 1);
        x.kind(0, 4, 1);
        bestDue("wanted in hour 0", x, 0, 8, 0, 255);
        bestDue("not in hour 1", x, 1, 0, 0, 0);
        bestDue("not in hour 5", x, 5, 0, 0, 0);
        // one that is worth more, below two that are worth less
        x = Check.oneLitre("bbd", 100);
        Check.values(x, 0, 0, 1000, 50, 2);
        Check.values(x, 1, 0, 1000, 100, 5);
        bestDue("one of 5 ahead of two of 2", x, 0, 5, 0, 4);
        x.kind(1, 3, 4);
        bestDue("one of 4 as two of 2", x, 0, 4, 0, 3);
        x.kind(1, 3, 3);
        bestDue("one of 3 behind two of 2", x, 0, 4, 0, 3);
    }

    private static void bestOfSeveral() {
        HeatDown x = Check.oneLitre("bb", 100);
        Check.values(x, 0, 60, 1000, 50, 5);
        bestDue("the first of two houses", x, 0, 5, 0, 1);
        x = Check.oneLitre("bbb", 100);
        x.kind(0, 2, 50);
        x.kind(0, 0, 50);
        bestDue("the first two of three", x, 0, 2, 0, 3);
        x = Check.oneLitre("bd", 100);
        Check.values(x, 0, 0, 1000, 0, 0);
        bestDue("a house worth nothing does not draw", x, 0, 1, 0, 2);
        // With the warm brook either of the two can be served, without it the lower one.
        x = Check.oneLitre("*bd", 100);
        x.spring(4, 300);
        Check.values(x, 0, 150, 1000, 300, 5);
        Check.values(x, 1, 100, 1000, 0, 5);
        bestDue("BROOKS weigh 256 times as much as DRAWS", x, 0, 5, 0, 2);
        x.kind(1, 0, 101);
        bestDue("the brook, if it must be", x, 0, 5, 1, 1);
        // either brook keeps h from harm
        x = Check.oneLitre("*b*h", 500);
        x.kind(4, 1, 250);
        bestDue("the first of two brooks", x, 0, 2, 1, 3);
    }

    private static void bestNeedsBrooks() {
        HeatDown x = Check.oneLitre("*b*b*b*bh", 500);
        x.kind(4, 1, 100);
        bestDue("all four brooks", x, 0, 5, 15, 31);
        x.kind(4, 1, 101);
        bestDue("all four still", x, 0, 5, 15, 31);
        x.kind(4, 1, 125);
        bestDue("three", x, 0, 5, 7, 31);
        x.kind(4, 1, 124);
        bestDue("not quite three", x, 0, 5, 15, 31);
        x.kind(4, 1, 99);
        bestDue("four do not do", x, 0, NONE, NONE, NONE);
        x.kind(4, 1, 500);
        bestDue("none", x, 0, 5, 0, 31);
        // by what b takes, h is kept from harm: one that is worth nothing draws
        x = Check.oneLitre("bh", 500);
        Check.values(x, 0, 0, 1000, 1, 0);
        Check.values(x, 4, 0, 499, 0, 0);
        bestDue("somebody draws for another's sake", x, 0, 0, 0, 1);
    }

    /** BEST goes by the same rules as run: the pipe, then the brook, then the house. */
    private static void bestByTheRules() {
        HeatDown x = Check.oneLitre("2*b", 500);
        Check.values(x, 0, 240, 240, 0, 1);
        bestDue("480 by two litres", x, 0, 1, 1, 1);
        x.spring(1, 499);
        bestDue("479 by two litres", x, 0, 0, 1, 0);
        x.spring(1, 501);
        bestDue("481 by two litres", x, 0, NONE, NONE, NONE);
        x = Check.oneLitre("*b2b", 500);
        Check.values(x, 0, 230, 500, 0, 1);
        x.kind(0, 1, 479);
        bestDue("500 by two litres, less 40", x, 0, 2, 1, 3);
        x.kind(0, 0, 231);
        bestDue("one tenth more", x, 0, 1, 1, 1);
        x = Check.oneLitre("9b", 310);
        x.spring(2, 300);
        x.kind(0, 0, 300);
        bestDue("down to AIR", x, 0, 1, 0, 1);
        x.kind(0, 2, 1);
        bestDue("one below AIR", x, 0, 0, 0, 0);
        x.kind(0, 1, 299);
        bestDue("AIR is too warm", x, 0, NONE, NONE, NONE);
        x.spring(1, 299);
        bestDue("below AIR it stays", x, 0, 0, 0, 0);
    }

    private static void bestNone() {
        HeatDown x = Check.oneLitre("b", 500);
        x.kind(0, 1, 499);
        bestDue("harmed by all", x, 0, NONE, NONE, NONE);
        x.kind(0, 1, 500);
        bestDue("MOST just so", x, 0, 1, 0, 1);
        x.kind(0, 4, 0);
        bestDue("nobody wants, nobody is harmed", x, 0, 0, 0, 0);
        x = Check.oneLitre("bbbbbbbh", 500);
        x.kind(4, 1, 499);
        bestDue("the last house is harmed", x, 0, NONE, NONE, NONE);
        x.kind(0, 2, 1);
        bestDue("not if one above it takes", x, 0, 8, 0, 255);
        // h is harmed in the hours in which b takes nothing
        x.kind(0, 4, 8);
        bestDue("harmed in hour 2", x, 2, NONE, NONE, NONE);
        bestDue("well in hour 3", x, 3, 8, 0, 255);
    }

    private static void bestRefused() {
        HeatDown x = new HeatDown();
        due("12: the last hour", x.best(5, 0), 5);
        due("12: the last what", x.best(0, 2), 1);
        due("12: hour below", x.best(-1, 0), OUTSIDE);
        due("12: hour behind", x.best(6, 0), OUTSIDE);
        due("12: hour far below", x.best(MIN, 0), OUTSIDE);
        due("12: hour far behind", x.best(MAX, 0), OUTSIDE);
        due("12: what below", x.best(0, -1), OUTSIDE);
        due("12: what behind", x.best(0, 3), OUTSIDE);
        due("12: what far below", x.best(0, MIN), OUTSIDE);
        due("12: what far behind", x.best(0, MAX), OUTSIDE);
        x.kind(0, 1, 0);
        due("12: NONE", x.best(0, 0), NONE);
        due("12: OUTSIDE hour where there is none", x.best(6, 0), OUTSIDE);
        due("12: OUTSIDE what where there is none", x.best(0, 3), OUTSIDE);
    }
}
