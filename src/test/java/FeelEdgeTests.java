/** Promises 18 to 25: what was felt, doors, winters, images, what is told; each bound on both sides. */
public final class FeelEdgeTests {
    private static final int NONE = -6, UNKNOWN = -1, OUTSIDE = -2, STATE = -3, FULL = -4;
    private static final int MIN = Integer.MIN_VALUE, MAX = Integer.MAX_VALUE;
    private static final Check CHECK = new Check("feel edges");

    /** 8 pipes, 4 brooks, 8 houses. */
    private static final String WHOLE = "1*b2*d3*r4*c5h6l7b9d";

    public static void main(String[] args) {
        feltHouses();
        feltRange();
        sixFelt();
        feltStays();
        forget();
        fitsNothingFelt();
        fitsLowAndHigh();
        fitsCut();
        fitsAllThatWasFelt();
        fitsByHourAndDraws();
        fitsWhereItIsFelt();
        fitsWhich();
        fitsRefused();
        doorOfOneSet();
        doorFirst();
        doorLast();
        doorCut();
        doorByHourAndDraws();
        doorOfThoseThatFit();
        doorRefused();
        winterDays();
        winterLeastAndMost();
        winterNotBelowNought();
        winterByTheWarmthTold();
        winterWithoutBest();
        winterHours();
        winterRefused();
        imageKeepsAll();
        imageKeepsWhatWasFelt();
        imageNotThePad();
        imagesApart();
        imageRefused();
        toldAll();
        toldRefused();
        CHECK.end();
    }

    private static void due(String call, long got, long want) {
        CHECK.due(call, got, want);
    }

    // ---- Promise 18, 19

    private static void feltHouses() {
        HeatDown x = Check.withLane(WHOLE);
        due("18: the first house", x.felt(0, 0, 1000), 1);
        due("18: the last house", x.felt(7, 0, 1000), 2);
        due("18: below the first", x.felt(-1, 0, 1000), UNKNOWN);
        due("18: behind the last (the end is no house)", x.felt(8, 0, 1000), UNKNOWN);
        due("18: far below", x.felt(MIN, 0, 1000), UNKNOWN);
        due("18: far behind", x.felt(MAX, 0, 1000), UNKNOWN);
        HeatDown one = new HeatDown();
        due("18: the only house", one.felt(0, 0, 1000), 1);
        due("18: no other", one.felt(1, 0, 1000), UNKNOWN);
    }

    private static void feltRefused(String name, HeatDown x, int house, int low, int high, int want) {
        int before = x.told(3);
        due("18: " + name, x.felt(house, low, high), want);
        due("18: " + name + ", nothing more is felt", x.told(3), before);
    }

    private static void feltRange() {
        HeatDown x = new HeatDown();
        due("18: all there may be", x.felt(0, 0, 1000), 1);
        due("18: the least alone", x.felt(0, 0, 0), 2);
        due("18: the most alone", x.felt(0, 1000, 1000), 3);
        due("18: low just below high", x.felt(0, 499, 500), 4);
        due("18: low is high", x.felt(0, 500, 500), 5);
        feltRefused("low just above high", x, 0, 501, 500, OUTSIDE);
        feltRefused("low far above high", x, 0, 1000, 0, OUTSIDE);
        feltRefused("low below", x, 0, -1, 1000, OUTSIDE);
        feltRefused("high above", x, 0, 0, 1001, OUTSIDE);
        feltRefused("both below", x, 0, -1, -1, OUTSIDE);
        feltRefused("both above", x, 0, 1001, 1001, OUTSIDE);
        feltRefused("low far below", x, 0, MIN, 0, OUTSIDE);
        feltRefused("high far above", x, 0, 0, MAX, OUTSIDE);
        feltRefused("high below", x, 0, 0, -1, OUTSIDE);
        feltRefused("low above", x, 0, 1001, 1000, OUTSIDE);
        feltRefused("UNKNOWN ahead of OUTSIDE low", x, 1, -1, 0, UNKNOWN);
        feltRefused("UNKNOWN ahead of OUTSIDE high", x, 1, 0, 1001, UNKNOWN);
        feltRefused("UNKNOWN ahead of low above high", x, -1, 1, 0, UNKNOWN);
        due("18: the sixth", x.felt(0, 0, 1000), 6);
    }

    private static void sixFelt() {
        HeatDown x = new HeatDown();
        for (int i = 1; i <= 6; i++) {
            due("18: felt " + i, x.felt(0, 0, 1000), i);
        }
        feltRefused("the seventh", x, 0, 0, 1000, FULL);
        feltRefused("UNKNOWN ahead of FULL, behind", x, 1, 0, 1000, UNKNOWN);
        feltRefused("UNKNOWN ahead of FULL, below", x, -1, 0, 1000, UNKNOWN);
        feltRefused("OUTSIDE low ahead of FULL", x, 0, -1, 1000, OUTSIDE);
        feltRefused("OUTSIDE high ahead of FULL", x, 0, 0, 1001, OUTSIDE);
        feltRefused("low above high ahead of FULL", x, 0, 1, 0, OUTSIDE);
        feltRefused("UNKNOWN ahead of all", x, 1, 1, 0, UNKNOWN);
        due("19: all six go", x.forget(), 6);
        due("18: room again", x.felt(0, 0, 1000), 1);
    }

    /** What was felt stays by all but lane, forget and restore. */
    private static void feltStays() {
        HeatDown x = Check.withLane("*b");
        x.felt(0, 0, 400);
        x.spring(1, 700);
        x.kind(0, 0, 100);
        Check.pad(x, "bd");
        x.wipe();
        due("18: it stays", x.told(3), 1);
        due("18: it is that which it was", x.fits(0, 0, -1), 0);
        x.lane();
        due("18: a refused lane leaves it", x.told(3), 1);
        Check.pad(x, "*b");
        x.lane();
        due("18: a lane like the last takes it", x.told(3), 0);
    }

    private static void forget() {
        HeatDown x = new HeatDown();
        due("19: nothing there", x.forget(), 0);
        due("19: nothing there, again", x.forget(), 0);
        x.felt(0, 0, 0);
        due("20: nothing fits", x.fits(0, 0, -1), 0);
        due("19: one", x.forget(), 1);
        due("19: none left", x.told(3), 0);
        due("19: none left to go", x.forget(), 0);
        due("20: all fit", x.fits(0, 0, -1), 1);
        x.felt(0, 800, 800);
        due("20: what went does not come back", x.fits(0, 0, -1), 1);
        x.felt(0, 800, 800);
        due("20: nor in the second place", x.fits(0, 0, -1), 1);
    }

    // ---- Promise 20

    private static void fitsDue(String name, HeatDown x, int hour, int draws, int... sets) {
        due("20: " + name + ": how many", x.fits(hour, draws, -1), sets.length);
        for (int i = 0; i < sets.length; i++) {
            due("20: " + name + ": set " + i, x.fits(hour, draws, i), sets[i]);
        }
        due("20: " + name + ": behind the last", x.fits(hour, draws, sets.length), NONE);
        due("20: " + name + ": below -1", x.fits(hour, draws, -2), NONE);
    }

    private static void fitsNothingFelt() {
        fitsDue("no brook", new HeatDown(), 0, 0, 0);
        fitsDue("one brook", Check.withLane("*b"), 0, 0, 0, 1);
        fitsDue("two brooks", Check.withLane("*b*b"), 0, 0, 0, 1, 2, 3);
        fitsDue("three brooks", Check.withLane("*b*b*b"), 0, 0, 0, 1, 2, 3, 4, 5, 6, 7);
        fitsDue("four brooks", Check.withLane(WHOLE), 5, 255, 0, 1, 2, 3, 4, 5, 6, 7, 8, 9, 10, 11, 12, 13, 14, 15);
    }

    private static void fitsLowAndHigh() {
        HeatDown x = Check.oneLitre("*b", 500);
        int[][] felt = {{500, 500}, {499, 500}, {500, 501}, {501, 1000}, {0, 499}, {250, 250}, {251, 499}, {0, 249},
            {0, 250}, {250, 500}, {0, 1000}};
        int[][] fit = {{0}, {0}, {0}, {}, {1}, {1}, {}, {}, {1}, {0, 1}, {0, 1}};
        for (int i = 0; i < felt.length; i++) {
            x.forget();
            x.felt(0, felt[i][0], felt[i][1]);
            fitsDue("felt " + felt[i][0] + " to " + felt[i][1], x, 0, 0, fit[i]);
        }
        // the least and the most there may be
        x = Check.oneLitre("b", 0);
        x.felt(0, 0, 0);
        fitsDue("0 tenths", x, 0, 0, 0);
        x.spring(1, 1);
        fitsDue("1 tenth", x, 0, 0);
        x = Check.oneLitre("b", 1000);
        x.felt(0, 1000, 1000);
        fitsDue("1000 tenths", x, 0, 0, 0);
        x.spring(1, 999);
        fitsDue("999 tenths", x, 0, 0);
    }

    /** 501 by two litres is 250 and a half: 250. */
    private static void fitsCut() {
        HeatDown x = Check.oneLitre("*b", 501);
        x.felt(0, 250, 250);
        fitsDue("cut", x, 0, 0, 1);
        x.felt(0, 0, 250);
        fitsDue("not above 250", x, 0, 0, 1);
        x.felt(0, 251, 300);
        fitsDue("not 251", x, 0, 0);
        x = Check.oneLitre("*b", 1);
        x.felt(0, 0, 0);
        fitsDue("1 by two litres is 0", x, 0, 0, 1);
    }

    private static void fitsAllThatWasFelt() {
        HeatDown x = Check.oneLitre("*b*b*b*b", 600);
        int[] fits = {8, 8, 4, 4, 2, 1};
        int[][] felt = {{0, 600, 600}, {0, 0, 1000}, {1, 300, 300}, {1, 0, 599}, {2, 200, 200}, {3, 150, 150}};
        for (int i = 0; i < 6; i++) {
            x.felt(felt[i][0], felt[i][1], felt[i][2]);
            due("20: by " + (i + 1) + " felt", x.fits(0, 0, -1), fits[i]);
        }
        fitsDue("all but the first brook", x, 0, 0, 14);
        x.forget();
        for (int i = 0; i < 5; i++) {
            x.felt(0, 0, 1000);
        }
        x.felt(3, 120, 120);
        fitsDue("the sixth alone tells", x, 0, 0, 15);
        x.forget();
        x.felt(3, 120, 120);
        for (int i = 0; i < 5; i++) {
            x.felt(0, 0, 1000);
        }
        fitsDue("the first alone tells", x, 0, 0, 15);
        x.felt(0, 0, 0);
        fitsDue("a seventh is not felt", x, 0, 0, 15);
    }

    private static void fitsByHourAndDraws() {
        HeatDown x = Check.oneLitre("*bd", 500);
        x.kind(0, 2, 100);
        x.kind(0, 4, 32);
        x.felt(1, 400, 400);
        fitsDue("b takes in hour 5", x, 5, 1, 0);
        fitsDue("b does not draw", x, 5, 0);
        fitsDue("b and d draw", x, 5, 3, 0);
        fitsDue("b takes nothing in hour 4", x, 4, 1);
        x.forget();
        x.felt(1, 200, 200);
        fitsDue("400 by two litres", x, 5, 1, 1);
        fitsDue("500 by two litres", x, 5, 0);
        x.forget();
        x.felt(0, 500, 500);
        fitsDue("ahead of what b takes", x, 5, 1, 0);
    }

    /** Behind the pipe and the brook of that house, ahead of what it takes. */
    private static void fitsWhereItIsFelt() {
        HeatDown x = Check.oneLitre("9*b", 590);
        x.kind(0, 2, 100);
        x.felt(0, 500, 500);
        fitsDue("behind the pipe", x, 0, 1, 0);
        x.forget();
        x.felt(0, 250, 250);
        fitsDue("behind the brook", x, 0, 1, 1);
    }

    private static void fitsWhich() {
        HeatDown x = Check.withLane(WHOLE);
        due("20: how many", x.fits(0, 0, -1), 16);
        due("20: the first", x.fits(0, 0, 0), 0);
        due("20: the last", x.fits(0, 0, 15), 15);
        due("20: behind the last", x.fits(0, 0, 16), NONE);
        due("20: below -1", x.fits(0, 0, -2), NONE);
        due("20: far below", x.fits(0, 0, MIN), NONE);
        due("20: far behind", x.fits(0, 0, MAX), NONE);
        x.felt(0, 0, 0);
        due("20: nothing fits: how many", x.fits(0, 0, -1), 0);
        due("20: nothing fits: the first", x.fits(0, 0, 0), NONE);
        due("20: nothing fits: below -1", x.fits(0, 0, -2), NONE);
    }

    private static void fitsRefused() {
        HeatDown x = Check.withLane(WHOLE);
        due("20: the last hour, all draw", x.fits(5, 255, -1), 16);
        due("20: hour below", x.fits(-1, 0, -1), OUTSIDE);
        due("20: hour behind", x.fits(6, 0, -1), OUTSIDE);
        due("20: hour far below", x.fits(MIN, 0, -1), OUTSIDE);
        due("20: hour far behind", x.fits(MAX, 0, -1), OUTSIDE);
        due("20: draws below", x.fits(0, -1, -1), OUTSIDE);
        due("20: draws behind", x.fits(0, 256, -1), OUTSIDE);
        due("20: draws far below", x.fits(0, MIN, -1), OUTSIDE);
        due("20: draws far behind", x.fits(0, MAX, -1), OUTSIDE);
        due("20: OUTSIDE hour where there is no i-th, below", x.fits(6, 0, -2), OUTSIDE);
        due("20: OUTSIDE hour where there is no i-th, behind", x.fits(6, 0, 16), OUTSIDE);
        due("20: OUTSIDE draws where there is no i-th", x.fits(0, 256, -2), OUTSIDE);
        due("20: one house alone", new HeatDown().fits(0, 2, -1), OUTSIDE);
        due("20: it draws", new HeatDown().fits(0, 1, -1), 1);
    }

    // ---- Promise 21

    private static void doorDue(String name, HeatDown x, int hour, int draws, int house, int alike) {
        due("21: " + name + ": house", x.door(hour, draws, 0), house);
        due("21: " + name + ": alike", x.door(hour, draws, 1), alike);
    }

    private static void doorOfOneSet() {
        HeatDown x = new HeatDown();
        doorDue("no brook, one house", x, 0, 0, 0, 1);
        x.felt(0, 0, 0);
        doorDue("nothing fits", x, 0, 0, NONE, NONE);
        x = Check.withLane("bbbbbbbb");
        doorDue("no brook, eight houses", x, 5, 255, 0, 1);
        x = Check.oneLitre("b*d*r", 600);
        x.felt(2, 600, 600);
        doorDue("one set fits", x, 0, 0, 0, 1);
        due("20: it is none", x.fits(0, 0, 0), 0);
    }

    private static void doorFirst() {
        HeatDown x = Check.oneLitre("*bbb", 600);
        doorDue("all tell alike", x, 0, 0, 0, 1);
        x = Check.oneLitre("b*b*bb", 600);
        // at house 1 two and two; at houses 2, 3: 600, 300 twice, 200
        doorDue("two is two: the first", x, 0, 0, 1, 2);
        x = Check.oneLitre("b*bb", 600);
        doorDue("the first behind the brook", x, 0, 0, 1, 1);
        // three brooks ahead of one house each, then six litres
        x = Check.oneLitre("*b*b*b", 600);
        // 4 and 4; 600 2, 300 4, 200 2; 600 1, 300 3, 200 3, 150 1
        doorDue("three alike at the third", x, 0, 0, 2, 3);
    }

    private static void doorLast() {
        HeatDown x = Check.oneLitre("bbbbbbb*d", 600);
        doorDue("the last of eight", x, 0, 0, 7, 1);
        x = Check.oneLitre("bbbbb*b*b*b", 600);
        doorDue("three brooks: 1, 3, 3, 1 of eight sets", x, 0, 0, 7, 3);
        // 1, 4, 6, 4, 1 of sixteen sets; ahead of it 2, 6, 6, 2
        x = Check.oneLitre("*b*b*b*bbbbb", 600);
        doorDue("four brooks: six of sixteen at the third already", x, 0, 0, 2, 6);
    }

    /** b takes 1 where it is warm enough: 999 and 998 by two litres are both 499. */
    private static void doorCut() {
        HeatDown x = Check.oneLitre("*b*d", 999);
        Check.values(x, 0, 600, 1000, 1, 1);
        x.felt(1, 499, 499);
        fitsDue("either brook", x, 0, 1, 1, 2);
        doorDue("at d both feel alike, at b they do not", x, 0, 1, 0, 1);
        x.felt(0, 0, 499);
        doorDue("one is left", x, 0, 1, 0, 1);
        x = Check.oneLitre("b*d*d", 999);
        Check.values(x, 1, 600, 1000, 1, 1);
        // at house 2: 999 less 1, 499 (999 by two), 499 (998 by two), 333
        doorDue("alike by the cut", x, 0, 2, 1, 2);
        x.spring(1, 1000);
        // 999, 500, 499, 333
        doorDue("not alike", x, 0, 2, 2, 1);
        doorDue("alike, if it does not draw", x, 0, 0, 1, 2);
    }

    private static void doorByHourAndDraws() {
        HeatDown x = Check.oneLitre("b*d*d", 1000);
        Check.values(x, 1, 600, 1000, 1, 1);
        x.kind(1, 4, 32);
        doorDue("in hour 5", x, 5, 2, 2, 1);
        doorDue("in hour 4", x, 4, 2, 1, 2);
    }

    private static void doorOfThoseThatFit() {
        HeatDown x = Check.oneLitre("*b*d", 600);
        doorDue("four sets", x, 0, 0, 0, 2);
        x.felt(1, 0, 599);
        // three sets: 600, 300, 300 at b after those; 300, 300, 200 at d
        doorDue("three sets", x, 0, 0, 0, 2);
        x.felt(0, 300, 300);
        doorDue("two sets, told apart at d", x, 0, 0, 1, 1);
        x.felt(1, 300, 300);
        doorDue("one set", x, 0, 0, 0, 1);
        x.felt(1, 200, 200);
        doorDue("no set", x, 0, 0, NONE, NONE);
        x.forget();
        doorDue("four sets again", x, 0, 0, 0, 2);
    }

    private static void doorRefused() {
        HeatDown x = Check.withLane(WHOLE);
        due("21: the last hour, all draw", x.door(5, 255, 1) < 1 ? 1 : 0, 0);
        due("21: hour below", x.door(-1, 0, 0), OUTSIDE);
        due("21: hour behind", x.door(6, 0, 0), OUTSIDE);
        due("21: hour far below", x.door(MIN, 0, 0), OUTSIDE);
        due("21: hour far behind", x.door(MAX, 0, 0), OUTSIDE);
        due("21: draws below", x.door(0, -1, 0), OUTSIDE);
        due("21: draws behind", x.door(0, 256, 0), OUTSIDE);
        due("21: draws far below", x.door(0, MIN, 0), OUTSIDE);
        due("21: draws far behind", x.door(0, MAX, 0), OUTSIDE);
        due("21: what below", x.door(0, 0, -1), OUTSIDE);
        due("21: what behind", x.door(0, 0, 2), OUTSIDE);
        due("21: what far below", x.door(0, 0, MIN), OUTSIDE);
        due("21: what far behind", x.door(0, 0, MAX), OUTSIDE);
        x.felt(0, 0, 0);
        due("21: NONE", x.door(0, 0, 0), NONE);
        due("21: OUTSIDE hour where nothing fits", x.door(6, 0, 0), OUTSIDE);
        due("21: OUTSIDE draws where nothing fits", x.door(0, 256, 0), OUTSIDE);
        due("21: OUTSIDE what where nothing fits", x.door(0, 0, 2), OUTSIDE);
        due("21: one house alone", new HeatDown().door(0, 2, 0), OUTSIDE);
    }

    // ---- Promise 22

    /** By each day's NEED it is told to the tenth how much less warm that day is. */
    private static void winterDue(int seed, int... less) {
        for (int day = 1; day <= less.length; day++) {
            HeatDown x = Check.oneLitre("b", 1000);
            String name = "22: seed " + seed + ", day " + day;
            x.kind(0, 0, 1000 - less[day - 1]);
            int before = day == 1 ? 0 : x.winter(seed, day - 1, 0);
            due(name + ": warm enough", x.winter(seed, day, 0) - before, 6);
            if (less[day - 1] > 0) {
                x.kind(0, 0, 1001 - less[day - 1]);
                before = day == 1 ? 0 : x.winter(seed, day - 1, 0);
                due(name + ": not one tenth warmer", x.winter(seed, day, 0) - before, 0);
            }
        }
    }

    private static void winterDays() {
        winterDue(0, 74, 24, 52, 190, 41, 9, 31, 144, 104, 150, 39, 86, 134, 96, 57, 140, 168, 109, 185, 162, 87, 116,
            67, 137, 105, 14, 60, 20, 69, 46);
        winterDue(1, 149, 49, 105, 44, 83, 19, 63, 89, 72, 101, 142, 36, 132, 56, 178, 144, 0, 82);
        // 75 times 872 and 74 is 65474, 75 times 873 and 74 is 65549: 12 left over
        winterDue(872, 74, 86, 71);
        winterDue(873, 12, 174, 187);
        // 7 and 1752: 599 and 131474, which is 400 left over by 65537
        winterDue(7, 199);
        winterDue(1752, 0);
        winterDue(9999, 92, 53, 35, 25, 132, 58, 196, 174, 8, 164, 53, 155, 19, 183, 83, 123, 126, 69, 188, 193, 17,
            118, 6, 36, 105, 187, 107, 99, 8, 109);
    }

    private static void winterLeastAndMost() {
        HeatDown x = Check.oneLitre("bbbbbbbb", 1000);
        x.kind(0, 3, 99);
        due("22: the most there may be", x.winter(9999, 30, 0), 99 * 8 * 6 * 30);
        due("22: nobody is harmed", x.winter(9999, 30, 1), 0);
        due("22: by one day", x.winter(0, 1, 0), 99 * 8 * 6);
        x.kind(0, 1, 0);
        due("22: all are harmed", x.winter(9999, 30, 1), 8 * 6 * 30);
        due("22: nobody is served", x.winter(9999, 30, 0), 0);
        due("22: all are harmed by one day", x.winter(0, 1, 1), 8 * 6);
    }

    private static void winterNotBelowNought() {
        // 74 tenths less on the first day by seed 0, 24 on the second
        HeatDown x = Check.oneLitre("b", 74);
        x.kind(0, 1, 500);
        due("22: just nought is enough for NEED 0", x.winter(0, 1, 0), 6);
        x.spring(1, 73);
        due("22: nought, not below it", x.winter(0, 1, 0), 6);
        x.spring(1, 0);
        due("22: nought less is nought", x.winter(0, 30, 0), 180);
        x.kind(0, 0, 1);
        x.spring(1, 75);
        due("22: one left", x.winter(0, 1, 0), 6);
        x.spring(1, 74);
        due("22: nothing left", x.winter(0, 1, 0), 0);
        due("22: fifty left on the second day", x.winter(0, 2, 0), 6);
    }

    private static void winterByTheWarmthTold() {
        HeatDown x = Check.oneLitre("bd", 1000);
        Check.values(x, 0, 0, 1000, 1, 1);
        Check.values(x, 1, 1000, 1000, 0, 5);
        // d alone is best; by day it is too cold for d, and b does not draw
        due("22: DRAWS are those of the warmth told", x.winter(0, 1, 0), 0);
        // 926 by day: b takes 1, by which it is too cold for d or just warm enough
        x.kind(1, 0, 926);
        due("22: both draw, b is served", x.winter(0, 1, 0), 6);
        x.kind(1, 0, 925);
        due("22: both are served", x.winter(0, 1, 0), 36);
        due("22: WARMTH stays", x.told(11), 1000);
        // the brook keeps h from harm by the warmth told, and by day as well
        x = Check.oneLitre("*h", 1000);
        x.kind(4, 1, 500);
        due("22: the brook of BEST is let in by day: served", x.winter(0, 1, 0), 6);
        due("22: the brook of BEST is let in by day: not harmed", x.winter(0, 1, 1), 0);
        // h is harmed without the brook by the warmth told, and by day it is not; d needs that it is shut
        x = Check.oneLitre("*hd", 1000);
        x.kind(4, 1, 950);
        Check.values(x, 1, 600, 1000, 0, 5);
        due("22: BROOKS are those of the warmth told", x.winter(0, 1, 0), 6);
        x.kind(4, 1, 1000);
        due("22: no brook by the warmth told", x.winter(0, 1, 0), 36);
        // by day b is too cold to take what would harm h
        x = Check.oneLitre("bh", 1000);
        Check.values(x, 0, 950, 1000, 600, 1);
        x.kind(4, 1, 400);
        due("22: harmed by day", x.winter(0, 1, 1), 6);
        due("22: nobody is served", x.winter(0, 1, 0), 0);
        due("22: the second day is warmer", x.winter(0, 2, 1), 6);
        due("22: both are served on it", x.winter(0, 2, 0), 12);
    }

    private static void winterWithoutBest() {
        HeatDown x = Check.oneLitre("*b", 1000);
        x.kind(0, 1, 499);
        due("22: no BEST", x.best(0, 0), NONE);
        due("22: no brook is let in: harmed", x.winter(0, 1, 1), 6);
        // b is harmed by the warmth told alone; each d is harmed by day, unless a brook is let in above it
        x = Check.oneLitre("b*d*d*d*d", 1000);
        x.kind(0, 1, 999);
        x.kind(1, 1, 500);
        due("22: no BEST", x.best(0, 0), NONE);
        due("22: none of four brooks is let in", x.winter(0, 1, 1), 4 * 6);
        x = Check.oneLitre("b", 1000);
        x.kind(0, 1, 950);
        due("22: no BEST", x.best(0, 0), NONE);
        due("22: not harmed by day", x.winter(0, 1, 1), 0);
        due("22: but nobody draws", x.winter(0, 1, 0), 0);
        x.kind(0, 1, 926);
        due("22: MOST just so by day", x.winter(0, 1, 1), 0);
        x.kind(0, 1, 925);
        due("22: one above it by day", x.winter(0, 1, 1), 6);
    }

    private static void winterHours() {
        HeatDown x = Check.oneLitre("b", 1000);
        int[] hours = {0, 1, 32, 33, 30, 63};
        for (int bits : hours) {
            x.kind(0, 4, bits);
            due("22: HOURS " + bits, x.winter(0, 2, 0), 2 * Integer.bitCount(bits));
        }
        // h is harmed in the hours in which b takes nothing
        x = Check.oneLitre("bh", 1000);
        Check.values(x, 0, 0, 1000, 500, 1);
        x.kind(4, 1, 500);
        x.kind(0, 4, 32);
        due("22: harmed in five hours", x.winter(0, 1, 1), 5);
        due("22: two served in one hour", x.winter(0, 1, 0), 2);
    }

    private static void winterRefused() {
        HeatDown x = new HeatDown();
        due("22: the first seed, one day", x.winter(0, 1, 0), 30);
        due("22: the last seed, all days", x.winter(9999, 30, 0), 900);
        due("22: the last what", x.winter(9999, 30, 1), 0);
        due("22: seed below", x.winter(-1, 1, 0), OUTSIDE);
        due("22: seed behind", x.winter(10000, 1, 0), OUTSIDE);
        due("22: seed far below", x.winter(MIN, 1, 0), OUTSIDE);
        due("22: seed far behind", x.winter(MAX, 1, 0), OUTSIDE);
        due("22: no day", x.winter(0, 0, 0), OUTSIDE);
        due("22: 31 days", x.winter(0, 31, 0), OUTSIDE);
        due("22: days below", x.winter(0, -1, 0), OUTSIDE);
        due("22: days far below", x.winter(0, MIN, 0), OUTSIDE);
        due("22: days far behind", x.winter(0, MAX, 0), OUTSIDE);
        due("22: what below", x.winter(0, 1, -1), OUTSIDE);
        due("22: what behind", x.winter(0, 1, 2), OUTSIDE);
        due("22: what far below", x.winter(0, 1, MIN), OUTSIDE);
        due("22: what far behind", x.winter(0, 1, MAX), OUTSIDE);
    }

    // ---- Promises 23, 24

    /** Every number that told and house have. */
    private static String all(HeatDown x) {
        StringBuilder text = new StringBuilder();
        for (int what = 1; what < 70; what++) {
            if (what < 4 || what >= 10 && what < 15 || what >= 20 && what % 10 < 6) {
                text.append(x.told(what)).append(' ');
            }
        }
        for (int house = 0; house < 8; house++) {
            text.append(x.house(house, 0)).append(x.house(house, 1)).append(x.house(house, 2)).append(' ');
        }
        return text.toString();
    }

    private static void changeAll(HeatDown x) {
        int[] springs = {1, 2, 3, 4, 5};
        for (int which = 0; which < 5; which++) {
            x.spring(which, springs[which]);
        }
        for (int kind = 0; kind < 6; kind++) {
            for (int what = 0; what < 5; what++) {
                x.kind(kind, what, 10 * what + kind);
            }
        }
        Check.pad(x, "9l8*h7c");
        x.lane();
        x.felt(2, 1, 2);
        x.felt(1, 3, 4);
    }

    private static void imageKeepsAll() {
        HeatDown x = Check.withLane(WHOLE);
        for (int i = 1; i <= 6; i++) {
            x.felt(i, 100 * i, 100 * i + 50);
        }
        String before = all(x);
        due("23: kept", x.image(1), 1);
        CHECK.holds("23: keeping changes nothing", before.equals(all(x)));
        changeAll(x);
        CHECK.holds("24: all is another", !before.equals(all(x)));
        due("24: restored", x.restore(1), 1);
        CHECK.holds("24: all is as it was", before.equals(all(x)));
        due("24: all six felt", x.told(3), 6);
        due("24: the seventh", x.felt(0, 0, 1000), FULL);
        due("24: restored again", x.restore(1), 1);
        CHECK.holds("24: all is as it was, again", before.equals(all(x)));
        // a new object, as it is
        x = new HeatDown();
        before = all(x);
        x.image(0);
        changeAll(x);
        x.restore(0);
        CHECK.holds("24: a new object", before.equals(all(x)));
        due("24: no brook", x.run(0, 1, 0, 0), OUTSIDE);
        due("24: nothing felt", x.forget(), 0);
    }

    /** HOUSE, low and high of each come back, not their number alone. */
    private static void imageKeepsWhatWasFelt() {
        int[][] others = {{0, 300, 400}, {1, 200, 400}, {1, 300, 600}, {1, 600, 600}};
        for (int[] other : others) {
            HeatDown x = Check.oneLitre("*b*d", 600);
            x.felt(1, 300, 400);
            x.image(0);
            x.forget();
            x.felt(other[0], other[1], other[2]);
            x.image(1);
            x.restore(0);
            fitsDue("felt at d from 300 to 400", x, 0, 0, 1, 2);
            x.restore(1);
            due("24: another was felt", x.fits(0, 0, -1) == 2 && x.fits(0, 0, 1) == 2 ? 1 : 0, 0);
            x.restore(0);
            fitsDue("felt at d from 300 to 400, again", x, 0, 0, 1, 2);
        }
        HeatDown x = Check.oneLitre("*b*d", 600);
        for (int i = 0; i < 5; i++) {
            x.felt(0, 0, 1000);
        }
        x.felt(1, 200, 200);
        x.image(0);
        x.forget();
        for (int i = 0; i < 6; i++) {
            x.felt(0, 600, 600);
        }
        x.restore(0);
        fitsDue("the sixth that was felt comes back", x, 0, 0, 3);
    }

    private static void imageNotThePad() {
        HeatDown x = new HeatDown();
        Check.type(x, "bd");
        x.image(0);
        due("23: the pad stays", x.told(0), 2);
        x.say('r');
        due("24: restored", x.restore(0), 1);
        due("24: the pad stays as it is now", x.told(0), 3);
        due("24: a lane of three", x.lane(), 3);
        due("24: its last", x.house(2, 0), 2);
        x.restore(0);
        due("24: an empty pad stays empty", x.wipe(), 0);
        due("24: one house", x.told(1), 1);
        // the full pad is kept out as well
        for (int i = 0; i < 48; i++) {
            x.say('b');
        }
        x.image(1);
        x.wipe();
        x.restore(1);
        due("24: not one sign comes back", x.told(0), 0);
    }

    private static void imagesApart() {
        HeatDown x = new HeatDown();
        x.image(0);
        due("24: 0 is kept, 1 is not", x.restore(1), STATE);
        x.spring(0, 31);
        x.image(1);
        x.spring(0, 41);
        due("24: restore 0", x.restore(0), 1);
        due("24: as kept in 0", x.told(10), 20);
        due("24: restore 1", x.restore(1), 1);
        due("24: as kept in 1", x.told(10), 31);
        x.spring(0, 42);
        due("24: 1 is not changed by calls since", x.restore(1), 1);
        due("24: as kept in 1", x.told(10), 31);
        x.spring(0, 43);
        due("23: 0 anew", x.image(0), 1);
        x.spring(0, 44);
        x.restore(0);
        due("24: as kept in 0 at last", x.told(10), 43);
        x.restore(1);
        due("24: as kept in 1 still", x.told(10), 31);
        HeatDown y = new HeatDown();
        y.image(1);
        due("24: 1 is kept, 0 is not", y.restore(0), STATE);
        due("24: another object's images are its own", new HeatDown().restore(1), STATE);
    }

    private static void imageRefused() {
        HeatDown x = new HeatDown();
        due("23: n below", x.image(-1), OUTSIDE);
        due("23: n behind", x.image(2), OUTSIDE);
        due("23: n far below", x.image(MIN), OUTSIDE);
        due("23: n far behind", x.image(MAX), OUTSIDE);
        due("23: 32 is not 0", x.image(32), OUTSIDE);
        due("24: image 0 was not kept", x.restore(0), STATE);
        due("24: image 1 was not kept", x.restore(1), STATE);
        due("24: OUTSIDE where none was kept, below", x.restore(-1), OUTSIDE);
        due("24: OUTSIDE where none was kept, behind", x.restore(2), OUTSIDE);
        due("24: n far below", x.restore(MIN), OUTSIDE);
        due("24: n far behind", x.restore(MAX), OUTSIDE);
        due("23: the first", x.image(0), 1);
        due("23: the last", x.image(1), 1);
        due("24: the first", x.restore(0), 1);
        due("24: the last", x.restore(1), 1);
        due("24: n below", x.restore(-1), OUTSIDE);
        due("24: n behind", x.restore(2), OUTSIDE);
        due("24: 32 is not 0", x.restore(32), OUTSIDE);
    }

    // ---- Promise 25

    private static void toldAll() {
        HeatDown x = new HeatDown();
        int[] first = {0, 1, 0, 0};
        for (int what = 0; what < 4; what++) {
            due("25: told(" + what + ") at first", x.told(what), first[what]);
        }
        x = Check.withLane(WHOLE);
        for (int i = 1; i <= 48; i++) {
            x.say(126);
            due("25: signs", x.told(0), i);
        }
        for (int i = 1; i <= 6; i++) {
            x.felt(0, 0, 1000);
            due("25: felt", x.told(3), i);
        }
        due("25: houses", x.told(1), 8);
        due("25: brooks", x.told(2), 4);
        changeAll(x);
        for (int which = 0; which < 5; which++) {
            due("25: spring " + which, x.told(10 + which), which + 1);
        }
        for (int kind = 0; kind < 6; kind++) {
            for (int what = 0; what < 5; what++) {
                due("25: kind " + kind + ", " + what, x.told(20 + 10 * what + kind), 10 * what + kind);
            }
        }
        due("25: houses of a shorter lane", x.told(1), 3);
        due("25: its brooks", x.told(2), 1);
        due("25: felt at it", x.told(3), 2);
        due("25: no signs", x.told(0), 0);
    }

    private static void toldRefused() {
        HeatDown x = new HeatDown();
        int[] not = {-1, 4, 5, 9, 15, 16, 19, 26, 27, 29, 36, 39, 46, 49, 56, 59, 66, 67, 69, 70, 75, 80, 100, -10, -20,
            MIN, MAX};
        for (int what : not) {
            due("25: told(" + what + ")", x.told(what), OUTSIDE);
        }
        int[] last = {3, 10, 14, 20, 25, 30, 35, 40, 45, 50, 55, 60, 65};
        int[] want = {0, 20, 80, 380, 500, 1000, 1000, 600, 1200, 5, 4, 63, 63};
        for (int i = 0; i < last.length; i++) {
            due("25: told(" + last[i] + ")", x.told(last[i]), want[i]);
        }
    }
}
