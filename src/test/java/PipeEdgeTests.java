/** Promises 13 to 17: moss, springs that cool, new houses, orders; each bound on both sides, each tie. */
public final class PipeEdgeTests {
    private static final int NONE = -6, UNKNOWN = -1, OUTSIDE = -2, FULL = -4;
    private static final int MIN = Integer.MIN_VALUE, MAX = Integer.MAX_VALUE;
    private static final Check CHECK = new Check("pipe edges");

    public static void main(String[] args) {
        mossAtMost();
        mossOnAll();
        mossFewest();
        mossLeast();
        mossWithoutPipes();
        mossNone();
        mossTriesEveryPlan();
        mossRefused();
        coolsLeastAndMost();
        coolsNone();
        coolsByBrooks();
        coolsTellsTheFirst();
        coolsRefused();
        putPlaces();
        putAheadOfPipe();
        putAheadOfBrook();
        putNone();
        putFull();
        putRefused();
        whereFirst();
        whereLast();
        whereNone();
        whereRefused();
        orderOne();
        orderSeven();
        orderFirstByNumbers();
        orderKeepsPipes();
        orderShutsBrooks();
        orderServesSome();
        orderNone();
        orderRefused();
        CHECK.end();
    }

    private static void due(String call, long got, long want) {
        CHECK.due(call, got, want);
    }

    // ---- Promise 13

    private static void mossDue(String name, HeatDown x, int hour, int k, int set, int worth) {
        due("13: " + name + ": PIPES by " + k, x.moss(hour, k, 0), set);
        due("13: " + name + ": WORTH by " + k, x.moss(hour, k, 1), worth);
    }

    /** A lane whose last house needs that all the warmth comes down. */
    private static HeatDown needing(String lane, int warmth, int need) {
        HeatDown x = Check.oneLitre(lane, warmth);
        Check.values(x, 0, 1000, 1000, 0, 0);
        Check.values(x, 1, need, 1000, 0, 8);
        return x;
    }

    private static void mossAtMost() {
        HeatDown x = needing("3b2b1d", 900, 860);
        mossDue("nothing", x, 0, 0, 0, 0);
        mossDue("the largest alone", x, 0, 1, 1, 8);
        x.kind(1, 0, 870);
        mossDue("one more tenth of a litre's ten", x, 0, 1, 1, 8);
        x.kind(1, 0, 871);
        mossDue("one does not do", x, 0, 1, 0, 0);
        mossDue("two do", x, 0, 2, 3, 8);
        mossDue("three are not needed", x, 0, 3, 3, 8);
        x.kind(1, 0, 891);
        mossDue("two do not do", x, 0, 2, 0, 0);
        mossDue("three do", x, 0, 3, 7, 8);
        mossDue("more than there are", x, 0, 4, 7, 8);
        mossDue("as many as may be", x, 0, 8, 7, 8);
    }

    private static void mossOnAll() {
        HeatDown x = needing("1b1b1b1b1b1b1b1d", 900, 900);
        mossDue("all eight pipes", x, 0, 8, 255, 8);
        mossDue("seven do not do", x, 0, 7, 0, 0);
        x.kind(1, 0, 890);
        mossDue("seven do", x, 0, 7, 127, 8);
        mossDue("seven of eight", x, 0, 8, 127, 8);
        mossDue("in the last hour", x, 5, 8, 127, 8);
        mossDue("none", x, 0, 0, 0, 0);
        x.kind(1, 0, 820);
        mossDue("none is needed", x, 0, 8, 0, 8);
    }

    private static void mossFewest() {
        HeatDown x = needing("1b1b2d", 900, 880);
        mossDue("one of 2 ahead of two of 1", x, 0, 8, 4, 8);
        mossDue("one of 2", x, 0, 1, 4, 8);
        x = needing("1b1b1b3d", 900, 870);
        mossDue("the last alone ahead of three", x, 0, 3, 8, 8);
        x = needing("9b9b9d", 900, 100);
        mossDue("none ahead of any", x, 0, 3, 0, 8);
    }

    private static void mossLeast() {
        HeatDown x = needing("1b1b1d", 900, 880);
        mossDue("the first of three", x, 0, 1, 1, 8);
        x.kind(1, 0, 890);
        mossDue("the first two of three", x, 0, 2, 3, 8);
        x = needing("1b2b1b2d", 900, 870);
        mossDue("1 and 2, the first of four such pairs", x, 0, 2, 3, 8);
        x.kind(1, 0, 880);
        mossDue("2 and 2, not side by side", x, 0, 2, 10, 8);
        x = needing("1b2b2d", 900, 870);
        mossDue("the second ahead of the third", x, 0, 1, 2, 8);
        // worth comes ahead of fewer and of least
        x = Check.oneLitre("1b3d", 900);
        Check.values(x, 0, 900, 1000, 0, 1);
        Check.values(x, 1, 890, 1000, 0, 2);
        mossDue("the one that is worth more", x, 0, 1, 2, 2);
        mossDue("both", x, 0, 2, 3, 3);
    }

    private static void mossWithoutPipes() {
        HeatDown x = needing("bbbbbbbd", 900, 900);
        mossDue("no pipe at all", x, 0, 8, 0, 8);
        mossDue("no pipe, no moss", x, 0, 0, 0, 8);
        x.kind(1, 0, 901);
        mossDue("no pipe that could help", x, 0, 8, 0, 0);
        x = needing("bb3bd", 900, 900);
        mossDue("the only pipe", x, 0, 8, 4, 8);
        mossDue("the only pipe, at most one", x, 0, 1, 4, 8);
        mossDue("the only pipe, none", x, 0, 0, 0, 0);
        mossDue("a lane of one house", new HeatDown(), 0, 8, 0, 5);
    }

    private static void mossNone() {
        HeatDown x = Check.oneLitre("9b9h", 900);
        x.kind(4, 1, 719);
        mossDue("harmed by all", x, 0, 0, NONE, NONE);
        mossDue("harmed by all, more so under moss", x, 0, 8, NONE, NONE);
        x.kind(4, 1, 720);
        mossDue("MOST just so", x, 0, 8, 0, 2);
        // under moss d is warm enough to take what would harm h
        x = Check.oneLitre("1dh", 510);
        Check.values(x, 1, 505, 1000, 300, 8);
        Check.values(x, 4, 0, 300, 0, 1);
        mossDue("none without moss", x, 0, 0, NONE, NONE);
        mossDue("moss keeps from harm", x, 0, 1, 1, 9);
    }

    /** For each set the plan is the best by that set: brooks and draws may change. */
    private static void mossTriesEveryPlan() {
        HeatDown x = Check.oneLitre("2*bd", 600);
        Check.values(x, 0, 0, 295, 0, 3);
        Check.values(x, 1, 300, 1000, 0, 8);
        // without the brook b is harmed; with it 580 by two litres is 290
        mossDue("d is too cold by the brook", x, 0, 0, 0, 3);
        mossDue("600 by two harms b", x, 0, 1, 0, 3);
        x.kind(0, 1, 300);
        mossDue("600 by two serves both", x, 0, 1, 1, 11);
        due("13: the lane keeps its loss", x.house(0, 1), 2);
        due("13: and its best", x.best(0, 0), 3);
    }

    private static void mossRefused() {
        HeatDown x = Check.withLane("1b");
        due("13: the last hour", x.moss(5, 0, 0), 0);
        due("13: hour below", x.moss(-1, 0, 0), OUTSIDE);
        due("13: hour behind", x.moss(6, 0, 0), OUTSIDE);
        due("13: hour far below", x.moss(MIN, 0, 0), OUTSIDE);
        due("13: hour far behind", x.moss(MAX, 0, 0), OUTSIDE);
        due("13: k 0", x.moss(0, 0, 0), 0);
        due("13: k 8", x.moss(0, 8, 0), 0);
        due("13: k below", x.moss(0, -1, 0), OUTSIDE);
        due("13: k behind", x.moss(0, 9, 0), OUTSIDE);
        due("13: k far below", x.moss(0, MIN, 0), OUTSIDE);
        due("13: k far behind", x.moss(0, MAX, 0), OUTSIDE);
        due("13: the last what", x.moss(0, 0, 1), 5);
        due("13: what below", x.moss(0, 0, -1), OUTSIDE);
        due("13: what behind", x.moss(0, 0, 2), OUTSIDE);
        due("13: what far below", x.moss(0, 0, MIN), OUTSIDE);
        due("13: what far behind", x.moss(0, 0, MAX), OUTSIDE);
        x.kind(0, 1, 0);
        due("13: OUTSIDE hour where there is none", x.moss(6, 0, 0), OUTSIDE);
        due("13: OUTSIDE k where there is none", x.moss(0, 9, 0), OUTSIDE);
        due("13: OUTSIDE what where there is none", x.moss(0, 0, 2), OUTSIDE);
    }

    // ---- Promise 14

    private static void coolsLeastAndMost() {
        HeatDown x = Check.oneLitre("b", 800);
        due("14: nobody draws, 0", x.cools(0, 0, 0), 0);
        due("14: NEED 0, 0", x.cools(0, 0, 1), 0);
        x.kind(0, 2, 1);
        due("14: WANT 1, 1", x.cools(0, 0, 1), 1);
        x.kind(0, 0, 1);
        due("14: NEED 1, 1", x.cools(0, 0, 1), 1);
        x.kind(0, 0, 999);
        due("14: NEED 999", x.cools(0, 0, 1), 999);
        x.kind(0, 0, 1000);
        due("14: NEED 1000, the warmest there may be", x.cools(0, 0, 1), 1000);
        due("14: in the last hour", x.cools(5, 0, 1), 1000);
        x.kind(0, 1, 999);
        due("14: above MOST", x.cools(0, 0, 1), NONE);
        x.kind(0, 1, 500);
        x.kind(0, 0, 500);
        due("14: NEED is MOST", x.cools(0, 0, 1), 500);
        x.kind(0, 0, 501);
        due("14: NEED is above MOST", x.cools(0, 0, 1), NONE);
        // several litres: the least that is enough is not cut
        x = Check.oneLitre("*b", 800);
        x.kind(0, 0, 301);
        due("14: by two litres", x.cools(0, 1, 1), 602);
        x.spring(4, 1);
        due("14: by two litres, one of 1 tenth", x.cools(0, 1, 1), 601);
        x = Check.withLane("b");
        x.spring(0, 7);
        x.kind(0, 0, 0);
        x.kind(0, 2, 100);
        due("14: 100 above AIR by 7 litres", x.cools(0, 0, 1), 115);
    }

    private static void coolsNone() {
        HeatDown x = Check.oneLitre("1b", 800);
        x.kind(0, 0, 990);
        due("14: 1000 less the pipe's 10", x.cools(0, 0, 1), 1000);
        x.kind(0, 0, 991);
        due("14: warmer than may be", x.cools(0, 0, 1), NONE);
        due("14: not if it does not draw", x.cools(0, 0, 0), 0);
        x.kind(0, 0, 0);
        x.kind(0, 4, 62);
        due("14: it wants nothing", x.cools(0, 0, 1), NONE);
        due("14: it wants something in hour 1", x.cools(1, 0, 1), 0);
        x = Check.oneLitre("*b", 800);
        x.spring(4, 300);
        x.kind(0, 1, 149);
        due("14: harmed by the brook alone", x.cools(0, 1, 0), NONE);
        x.kind(0, 1, 150);
        due("14: MOST just so by the brook alone", x.cools(0, 1, 0), 0);
        due("14: the brook is shut", x.cools(0, 0, 0), 0);
        // one is served from 600 on, the other is harmed above 500
        x = Check.oneLitre("bh", 800);
        x.kind(0, 0, 600);
        x.kind(4, 1, 500);
        due("14: one is harmed before the other is served", x.cools(0, 0, 1), NONE);
        due("14: not if the other does not draw", x.cools(0, 0, 2), 0);
        x.kind(0, 2, 100);
        due("14: what one takes keeps the other from harm", x.cools(0, 0, 1), 600);
        x.kind(0, 2, 99);
        due("14: one less does not", x.cools(0, 0, 1), NONE);
    }

    private static void coolsByBrooks() {
        HeatDown x = Check.oneLitre("*b*b*b*b", 800);
        x.kind(0, 0, 100);
        for (int brooks = 0; brooks < 16; brooks++) {
            due("14: the last house, brooks " + brooks, x.cools(0, brooks, 8), 100 * (1 + Integer.bitCount(brooks)));
        }
        due("14: all houses, no brook", x.cools(0, 0, 15), 100);
        due("14: the first house, all brooks", x.cools(0, 15, 1), 200);
        x = Check.oneLitre("bbbbbbbb", 800);
        x.kind(0, 2, 10);
        due("14: eight houses", x.cools(0, 0, 255), 80);
        due("14: the last alone", x.cools(0, 0, 128), 10);
    }

    /** WARMTH as it is has no part in it, and stays. */
    private static void coolsTellsTheFirst() {
        HeatDown x = Check.oneLitre("b", 0);
        x.kind(0, 0, 400);
        due("14: colder than that", x.cools(0, 0, 1), 400);
        x.spring(1, 400);
        due("14: just so", x.cools(0, 0, 1), 400);
        x.spring(1, 1000);
        due("14: warmer than that", x.cools(0, 0, 1), 400);
        due("14: WARMTH stays", x.told(11), 1000);
    }

    private static void coolsRefused() {
        HeatDown x = Check.withLane("*b*b*b*bbbbb");
        due("14: the last of all", x.cools(5, 15, 255) < 0 ? 1 : 0, 0);
        due("14: hour below", x.cools(-1, 0, 0), OUTSIDE);
        due("14: hour behind", x.cools(6, 0, 0), OUTSIDE);
        due("14: hour far below", x.cools(MIN, 0, 0), OUTSIDE);
        due("14: hour far behind", x.cools(MAX, 0, 0), OUTSIDE);
        due("14: brooks below", x.cools(0, -1, 0), OUTSIDE);
        due("14: brooks behind", x.cools(0, 16, 0), OUTSIDE);
        due("14: brooks far below", x.cools(0, MIN, 0), OUTSIDE);
        due("14: brooks far behind", x.cools(0, MAX, 0), OUTSIDE);
        due("14: draws below", x.cools(0, 0, -1), OUTSIDE);
        due("14: draws behind", x.cools(0, 0, 256), OUTSIDE);
        due("14: draws far below", x.cools(0, 0, MIN), OUTSIDE);
        due("14: draws far behind", x.cools(0, 0, MAX), OUTSIDE);
        HeatDown one = new HeatDown();
        due("14: no brook at all", one.cools(0, 1, 0), OUTSIDE);
        due("14: one house alone", one.cools(0, 0, 2), OUTSIDE);
        one.kind(0, 4, 0);
        due("14: NONE", one.cools(0, 0, 1), NONE);
        due("14: OUTSIDE where there is none", one.cools(6, 0, 1), OUTSIDE);
    }

    // ---- Promise 15

    private static void putDue(String name, HeatDown x, int kind, int... worths) {
        for (int place = 0; place < worths.length; place++) {
            due("15: " + name + " at " + place, x.put(0, kind, place), worths[place]);
        }
    }

    private static void putPlaces() {
        HeatDown x = Check.oneLitre("bdr", 500);
        Check.values(x, 0, 500, 1000, 100, 1);
        Check.values(x, 1, 400, 1000, 100, 2);
        Check.values(x, 2, 300, 1000, 100, 4);
        Check.values(x, 3, 500, 1000, 0, 8);
        due("15: the lane as it is", x.best(0, 0), 7);
        // behind b, d, r it is too cold for c, if they take; then less is served
        putDue("c", x, 3, 15, 14, 12, 8);
        due("15: below the first place", x.put(0, 3, -1), UNKNOWN);
        due("15: behind the last place", x.put(0, 3, 4), UNKNOWN);
        due("15: three houses still", x.told(1), 3);
        due("15: the lane as it was", x.best(0, 0), 7);
    }

    private static void putAheadOfPipe() {
        // a new house stands above the pipe of the house behind it, with no loss of its own
        HeatDown x = Check.oneLitre("1b2b", 500);
        Check.values(x, 0, 1000, 1000, 0, 0);
        Check.values(x, 3, 500, 1000, 0, 8);
        putDue("c of 500", x, 3, 8, 0, 0);
        x.kind(3, 0, 490);
        putDue("c of 490", x, 3, 8, 8, 0);
        x.kind(3, 0, 470);
        putDue("c of 470", x, 3, 8, 8, 8);
        x.kind(3, 0, 491);
        putDue("c of 491", x, 3, 8, 0, 0);
        // the pipe still takes from the house behind it
        x.kind(3, 0, 0);
        Check.values(x, 0, 500, 1000, 0, 1);
        putDue("b behind its pipe", x, 3, 8, 8, 8);
        x.kind(0, 0, 490);
        putDue("b of 490", x, 3, 9, 9, 9);
        x.kind(0, 0, 470);
        putDue("both of 470", x, 3, 10, 10, 10);
        due("15: the first pipe stays", x.house(0, 1), 1);
        due("15: the second pipe stays", x.house(1, 1), 2);
    }

    private static void putAheadOfBrook() {
        // c stands above the brook: 500 ahead of it, 250 behind it
        HeatDown x = Check.oneLitre("*b", 500);
        Check.values(x, 0, 0, 250, 0, 1);
        Check.values(x, 3, 500, 1000, 0, 8);
        putDue("c", x, 3, 9, 1);
        x.kind(3, 0, 250);
        putDue("c of 250", x, 3, 9, 9);
        x.kind(3, 1, 499);
        putDue("c of at most 499", x, 3, NONE, 9);
        due("15: the brook stays", x.house(0, 2), 0);
        due("15: one brook", x.told(2), 1);
        // r alone stands below the brook, wherever c comes between
        x = Check.oneLitre("bd*r", 500);
        Check.values(x, 0, 500, 1000, 0, 1);
        Check.values(x, 1, 500, 1000, 0, 1);
        Check.values(x, 2, 250, 250, 0, 1);
        Check.values(x, 3, 500, 1000, 0, 8);
        putDue("c ahead of b, d, r and behind", x, 3, 11, 11, 11, 3);
        // the brook below is let in, the brook above is not
        x = Check.oneLitre("*b*r", 500);
        Check.values(x, 0, 500, 1000, 0, 1);
        Check.values(x, 2, 250, 250, 0, 1);
        Check.values(x, 3, 500, 1000, 0, 8);
        putDue("c between two brooks", x, 3, 10, 10, 2);
        // the second brook is the second still
        x = Check.oneLitre("*b*b*b*b", 500);
        Check.values(x, 0, 0, 100, 0, 1);
        x.kind(0, 1, 500);
        Check.values(x, 3, 100, 100, 0, 8);
        putDue("c below four brooks", x, 3, NONE, NONE, NONE, NONE, 12);
    }

    private static void putNone() {
        HeatDown x = Check.oneLitre("b", 500);
        x.kind(3, 1, 499);
        putDue("c is harmed", x, 3, NONE, NONE);
        x.kind(0, 2, 1);
        putDue("c is harmed above b alone", x, 3, NONE, 2);
        x.kind(0, 1, 499);
        putDue("b is harmed", x, 3, NONE, NONE);
        Check.values(x, 3, 0, 1000, 1, 1);
        putDue("c above keeps b from harm", x, 3, 2, NONE);
        x.kind(3, 4, 1);
        due("15: in hour 0", x.put(0, 3, 0), 2);
        due("15: not in hour 5", x.put(5, 3, 0), NONE);
    }

    private static void putFull() {
        HeatDown x = Check.oneLitre("*b*b*b*bbbb", 500);
        for (int place = 0; place <= 7; place++) {
            due("15: the eighth house at " + place, x.put(0, 1, place), 8);
        }
        due("15: place 8 of seven houses", x.put(0, 1, 8), UNKNOWN);
        x = Check.oneLitre("bbbbbbbb", 500);
        for (int place = 0; place <= 8; place++) {
            due("15: a ninth house at " + place, x.put(0, 1, place), FULL);
        }
        due("15: UNKNOWN place ahead of FULL, behind", x.put(0, 1, 9), UNKNOWN);
        due("15: UNKNOWN place ahead of FULL, below", x.put(0, 1, -1), UNKNOWN);
        due("15: UNKNOWN kind ahead of FULL, behind", x.put(0, 6, 0), UNKNOWN);
        due("15: UNKNOWN kind ahead of FULL, below", x.put(0, -1, 0), UNKNOWN);
        due("15: OUTSIDE ahead of FULL, behind", x.put(6, 1, 0), OUTSIDE);
        due("15: OUTSIDE ahead of FULL, below", x.put(-1, 1, 0), OUTSIDE);
        due("15: UNKNOWN ahead of all", x.put(6, 6, 9), UNKNOWN);
    }

    private static void putRefused() {
        HeatDown x = new HeatDown();
        due("15: the last hour and kind and place", x.put(5, 5, 1), 9);
        due("15: the first", x.put(0, 0, 0), 10);
        due("15: kind below", x.put(0, -1, 0), UNKNOWN);
        due("15: kind behind", x.put(0, 6, 0), UNKNOWN);
        due("15: kind far below", x.put(0, MIN, 0), UNKNOWN);
        due("15: kind far behind", x.put(0, MAX, 0), UNKNOWN);
        due("15: place below", x.put(0, 0, -1), UNKNOWN);
        due("15: place behind", x.put(0, 0, 2), UNKNOWN);
        due("15: place far below", x.put(0, 0, MIN), UNKNOWN);
        due("15: place far behind", x.put(0, 0, MAX), UNKNOWN);
        due("15: hour below", x.put(-1, 0, 0), OUTSIDE);
        due("15: hour behind", x.put(6, 0, 0), OUTSIDE);
        due("15: hour far below", x.put(MIN, 0, 0), OUTSIDE);
        due("15: hour far behind", x.put(MAX, 0, 0), OUTSIDE);
        due("15: UNKNOWN kind ahead of OUTSIDE", x.put(6, 6, 0), UNKNOWN);
        due("15: UNKNOWN place ahead of OUTSIDE", x.put(6, 0, 2), UNKNOWN);
        due("15: UNKNOWN place below ahead of OUTSIDE", x.put(-1, 0, -1), UNKNOWN);
    }

    // ---- Promise 16

    private static void whereDue(String name, HeatDown x, int hour, int kind, int place, int worth) {
        due("16: " + name + ": place", x.where(hour, kind, 0), place);
        due("16: " + name + ": WORTH", x.where(hour, kind, 1), worth);
    }

    private static void whereFirst() {
        HeatDown x = Check.oneLitre("bbb", 500);
        whereDue("all places alike", x, 0, 0, 0, 4);
        x.kind(0, 2, 1);
        x.kind(3, 1, 498);
        whereDue("the first two harm", x, 0, 3, 2, 4);
        x.kind(3, 1, 499);
        whereDue("the first harms", x, 0, 3, 1, 4);
        x.kind(3, 1, 500);
        whereDue("none harms", x, 0, 3, 0, 4);
        x.kind(3, 4, 1);
        whereDue("in the last hour", x, 5, 3, 0, 3);
    }

    private static void whereLast() {
        HeatDown x = Check.oneLitre("bbb", 500);
        x.kind(0, 2, 1);
        x.kind(3, 1, 497);
        whereDue("all but the last harm", x, 0, 3, 3, 4);
        // c takes all: it costs least behind the others
        x = Check.oneLitre("ddd", 500);
        Check.values(x, 1, 0, 1000, 100, 5);
        Check.values(x, 3, 200, 1000, 200, 6);
        whereDue("all are served at each place", x, 0, 3, 0, 21);
        Check.values(x, 3, 200, 1000, 500, 6);
        whereDue("the three without it are worth most", x, 0, 3, 0, 15);
        Check.values(x, 1, 500, 1000, 0, 5);
        whereDue("behind them it takes nothing that they need", x, 0, 3, 3, 21);
        x = Check.oneLitre("*b*b*b*bbbb", 500);
        x.kind(0, 2, 10);
        Check.values(x, 3, 0, 86, 0, 1);
        // 500 less seven times 10, by five litres
        whereDue("the eighth house, below four brooks and seven houses", x, 0, 3, 7, 8);
    }

    private static void whereNone() {
        HeatDown x = Check.oneLitre("b", 500);
        x.kind(3, 1, 499);
        whereDue("harmed at each place", x, 0, 3, NONE, NONE);
        x.kind(0, 1, 499);
        whereDue("the others are harmed at each place", x, 0, 1, NONE, NONE);
        Check.values(x, 3, 0, 1000, 1, 0);
        whereDue("worth nothing, it keeps from harm", x, 0, 3, 0, 1);
        x.kind(0, 3, 0);
        whereDue("WORTH 0 is no NONE", x, 0, 3, 0, 0);
    }

    private static void whereRefused() {
        HeatDown x = new HeatDown();
        due("16: the last of all", x.where(5, 5, 1), 9);
        due("16: kind below", x.where(0, -1, 0), UNKNOWN);
        due("16: kind behind", x.where(0, 6, 0), UNKNOWN);
        due("16: kind far below", x.where(0, MIN, 0), UNKNOWN);
        due("16: kind far behind", x.where(0, MAX, 0), UNKNOWN);
        due("16: hour below", x.where(-1, 0, 0), OUTSIDE);
        due("16: hour behind", x.where(6, 0, 0), OUTSIDE);
        due("16: hour far below", x.where(MIN, 0, 0), OUTSIDE);
        due("16: hour far behind", x.where(MAX, 0, 0), OUTSIDE);
        due("16: what below", x.where(0, 0, -1), OUTSIDE);
        due("16: what behind", x.where(0, 0, 2), OUTSIDE);
        due("16: what far below", x.where(0, 0, MIN), OUTSIDE);
        due("16: what far behind", x.where(0, 0, MAX), OUTSIDE);
        due("16: UNKNOWN ahead of OUTSIDE hour", x.where(6, 6, 0), UNKNOWN);
        due("16: UNKNOWN ahead of OUTSIDE what", x.where(0, -1, 2), UNKNOWN);
        x = Check.withLane("bbbbbbb");
        due("16: seven houses", x.where(0, 0, 1), 40);
        x = Check.withLane("bbbbbbbb");
        due("16: eight houses, place", x.where(0, 0, 0), FULL);
        due("16: eight houses, WORTH", x.where(0, 0, 1), FULL);
        due("16: UNKNOWN ahead of FULL, behind", x.where(0, 6, 0), UNKNOWN);
        due("16: UNKNOWN ahead of FULL, below", x.where(0, -1, 0), UNKNOWN);
        due("16: OUTSIDE hour ahead of FULL", x.where(6, 0, 0), OUTSIDE);
        due("16: OUTSIDE hour below ahead of FULL", x.where(-1, 0, 0), OUTSIDE);
        due("16: OUTSIDE what ahead of FULL", x.where(0, 0, 2), OUTSIDE);
        due("16: OUTSIDE what below ahead of FULL", x.where(0, 0, -1), OUTSIDE);
        due("16: UNKNOWN ahead of all", x.where(6, 6, 2), UNKNOWN);
    }

    // ---- Promise 17

    private static void orderDue(String name, HeatDown x, int hour, int worth, int... houses) {
        due("17: " + name + ": WORTH", x.order(hour, -1), worth);
        for (int i = 0; i < houses.length; i++) {
            due("17: " + name + ": the house at " + i, x.order(hour, i), houses[i]);
        }
    }

    private static void orderOne() {
        HeatDown x = Check.oneLitre("b", 500);
        orderDue("one house", x, 0, 1, 0);
        x.kind(0, 0, 501);
        orderDue("one house, not served", x, 0, 0, 0);
        x.kind(0, 1, 499);
        orderDue("one house, harmed", x, 0, NONE, NONE);
        due("17: i behind one house", x.order(0, 1), OUTSIDE);
        due("17: i below", x.order(0, -2), OUTSIDE);
    }

    private static void orderSeven() {
        HeatDown x = Check.oneLitre("bbbbbbd", 500);
        x.kind(0, 2, 10);
        Check.values(x, 1, 500, 1000, 0, 5);
        orderDue("seven houses, the last must be first", x, 0, 11, 6, 0, 1, 2, 3, 4, 5);
        x.kind(1, 0, 490);
        orderDue("the last must be second", x, 5, 11, 0, 6, 1, 2, 3, 4, 5);
        x.kind(1, 0, 440);
        orderDue("they stay as they are", x, 0, 11, 0, 1, 2, 3, 4, 5, 6);
        x.kind(1, 0, 441);
        orderDue("the last must be last but one", x, 0, 11, 0, 1, 2, 3, 4, 6, 5);
        due("17: i behind seven houses", x.order(0, 7), OUTSIDE);
    }

    private static void orderFirstByNumbers() {
        HeatDown x = Check.oneLitre("bdr", 500);
        orderDue("all orders alike", x, 0, 3, 0, 1, 2);
        // r must be first; then b and d as they are
        x.kind(0, 2, 1);
        x.kind(1, 2, 1);
        x.kind(2, 0, 500);
        orderDue("r is first", x, 0, 3, 2, 0, 1);
        // d ahead of b, r anywhere: 1 0 2 is ahead of 1 2 0 and 2 1 0
        x = Check.oneLitre("bdr", 500);
        x.kind(0, 2, 1);
        x.kind(1, 0, 500);
        orderDue("d ahead of b", x, 0, 3, 1, 0, 2);
        // r ahead of d ahead of b: the i-th is the house there, not the place of a house
        x.kind(2, 0, 500);
        x.kind(1, 2, 1);
        orderDue("r, d, b", x, 0, 3, 2, 1, 0);
        x = Check.oneLitre("bdr", 500);
        Check.values(x, 0, 0, 1000, 1, 1);
        Check.values(x, 1, 500, 1000, 1, 1);
        Check.values(x, 2, 499, 1000, 1, 1);
        orderDue("d, r, b", x, 0, 3, 1, 2, 0);
    }

    private static void orderKeepsPipes() {
        HeatDown x = Check.oneLitre("1b2d", 500);
        Check.values(x, 1, 490, 1000, 0, 5);
        orderDue("d behind the first pipe alone", x, 0, 6, 1, 0);
        x.kind(1, 0, 470);
        orderDue("d behind both", x, 0, 6, 0, 1);
        x.kind(1, 0, 491);
        orderDue("too cold for d", x, 0, 1, 0, 1);
        due("17: the lane stays", x.house(0, 0), 0);
        due("17: its pipes stay", x.house(1, 1), 2);
    }

    private static void orderShutsBrooks() {
        HeatDown x = Check.oneLitre("*b*d", 500);
        x.kind(0, 1, 250);
        orderDue("b is harmed without the brook", x, 0, NONE, NONE, NONE);
        due("17: not with it", x.best(0, 0), 2);
        x.kind(0, 1, 500);
        x.kind(1, 0, 500);
        orderDue("brooks are shut: both are served", x, 0, 2, 0, 1);
        due("17: the brooks stay", x.told(2), 2);
    }

    private static void orderServesSome() {
        HeatDown x = Check.oneLitre("bd", 500);
        Check.values(x, 0, 0, 1000, 500, 3);
        Check.values(x, 1, 0, 1000, 500, 3);
        orderDue("one of two is served", x, 0, 3, 0, 1);
        x.kind(1, 3, 4);
        orderDue("the one that is worth more", x, 0, 4, 1, 0);
        x.kind(1, 3, 3);
        orderDue("in another hour", x, 5, 3, 0, 1);
        x.kind(0, 4, 31);
        orderDue("b wants nothing in hour 5", x, 5, 3, 0, 1);
        x.kind(1, 4, 0);
        orderDue("nobody wants anything", x, 5, 0, 0, 1);
        // all draw, even one that had better not: b of 1 takes what d of 5 needs
        x = Check.oneLitre("bd", 500);
        Check.values(x, 0, 0, 1000, 400, 1);
        Check.values(x, 1, 0, 500, 500, 5);
        due("17: b may not draw in BEST", x.best(0, 2), 2);
        orderDue("d comes first", x, 0, 5, 1, 0);
        x.kind(1, 1, 499);
        orderDue("d would be harmed there", x, 0, 1, 0, 1);
    }

    private static void orderNone() {
        HeatDown x = Check.oneLitre("bh", 500);
        x.kind(4, 1, 400);
        orderDue("h is harmed in all", x, 0, NONE, NONE, NONE);
        x.kind(0, 2, 100);
        orderDue("MOST just so behind b", x, 0, 2, 0, 1);
        x.kind(0, 2, 99);
        orderDue("one above MOST", x, 0, NONE, NONE, NONE);
        x = Check.oneLitre("hb", 500);
        x.kind(4, 1, 400);
        x.kind(0, 2, 100);
        orderDue("as they are h is harmed", x, 0, 2, 1, 0);
        x.kind(0, 3, 0);
        x.kind(4, 3, 0);
        orderDue("WORTH 0 is no NONE", x, 0, 0, 1, 0);
    }

    private static void orderRefused() {
        HeatDown x = Check.withLane("bbbbbbb");
        due("17: i -1", x.order(5, -1), 35);
        due("17: the last i", x.order(5, 6), 6);
        due("17: i behind", x.order(0, 7), OUTSIDE);
        due("17: i below", x.order(0, -2), OUTSIDE);
        due("17: i far below", x.order(0, MIN), OUTSIDE);
        due("17: i far behind", x.order(0, MAX), OUTSIDE);
        due("17: hour below", x.order(-1, 0), OUTSIDE);
        due("17: hour behind", x.order(6, 0), OUTSIDE);
        due("17: hour far below", x.order(MIN, 0), OUTSIDE);
        due("17: hour far behind", x.order(MAX, 0), OUTSIDE);
        x = Check.withLane("bbbbbbbb");
        for (int i = -1; i <= 7; i++) {
            due("17: eight houses, i " + i, x.order(0, i), FULL);
        }
        due("17: OUTSIDE i ahead of FULL, behind", x.order(0, 8), OUTSIDE);
        due("17: OUTSIDE i ahead of FULL, below", x.order(0, -2), OUTSIDE);
        due("17: OUTSIDE hour ahead of FULL, behind", x.order(6, -1), OUTSIDE);
        due("17: OUTSIDE hour ahead of FULL, below", x.order(-1, 0), OUTSIDE);
        x = new HeatDown();
        x.kind(0, 1, 0);
        due("17: NONE", x.order(0, 0), NONE);
        due("17: OUTSIDE i where there is none", x.order(0, 1), OUTSIDE);
        due("17: OUTSIDE hour where there is none", x.order(6, 0), OUTSIDE);
    }
}
