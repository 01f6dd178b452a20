import java.util.ArrayList;
import java.util.List;

/**
 * A refused call changes nothing, nor does one that only asks: of two objects that are alike, one gets the call,
 * and then both are asked all that can be asked.
 */
public final class RefusalTests {
    private static final int NONE = -6, UNKNOWN = -1, OUTSIDE = -2, STATE = -3, FULL = -4, NO = -5;
    private static final int MIN = Integer.MIN_VALUE, MAX = Integer.MAX_VALUE;
    private static final Check CHECK = new Check("refusals");

    private static final String WHOLE = "1*b2*d3*r4*c5h6l7b9d";
    private static final String[] LANES = {"b", "bbbbbbb", WHOLE};

    private interface Call {
        int on(HeatDown x);
    }

    /** How an object comes to the state in which it is called. */
    private interface Way {
        HeatDown come();
    }

    public static void main(String[] args) {
        List<Way> ways = List.of(RefusalTests::fresh, RefusalTests::full, RefusalTests::someDay, RefusalTests::someLane);
        for (Way way : ways) {
            refusedAnywhere(way);
            askedAnywhere(way);
        }
        refusedFresh();
        refusedFull();
        refusedByFault();
        farArguments(ways);
        CHECK.end();
    }

    private static HeatDown fresh() {
        return new HeatDown();
    }

    /** As much as there may be of all; both images kept, and unlike what is now. */
    private static HeatDown full() {
        HeatDown x = Check.withLane("3*l*h");
        x.felt(1, 100, 900);
        x.spring(0, 30);
        x.image(0);
        Check.type(x, "2bbb");
        x.lane();
        x.kind(2, 1, 770);
        x.spring(1, 777);
        x.image(1);
        Check.type(x, WHOLE);
        x.lane();
        for (int i = 0; i < 6; i++) {
            x.felt(i, 10 * i, 1000);
        }
        Check.type(x, "1234ABCDEFGH/1234ABCDEFGH/1234ABCDEFGH/ABCDEFG//");
        return x;
    }

    private static HeatDown someDay() {
        HeatDown x = Check.withLane("2b*dh");
        x.felt(2, 300, 800);
        x.image(1);
        x.spring(1, 640);
        Check.type(x, "A/B1/AB//C/");
        return x;
    }

    private static HeatDown someLane() {
        HeatDown x = Check.withLane("bdrchlb");
        x.kind(4, 1, 1000);
        x.kind(3, 1, 1000);
        Check.type(x, "3*b9hd");
        return x;
    }

    // ---- one of two objects gets the call

    private static void sameAfter(String name, Way way, Call call, int want) {
        HeatDown called = way.come();
        HeatDown alone = way.come();
        CHECK.due(name, call.on(called), want);
        sameAnswers(name, called, alone);
    }

    private static void sameAnswers(String name, HeatDown called, HeatDown alone) {
        List<Integer> got = answers(called);
        List<Integer> want = answers(alone);
        for (int i = 0; i < want.size(); i++) {
            if (!got.get(i).equals(want.get(i))) {
                CHECK.due(name + ", and then question " + i, got.get(i), want.get(i));
                return;
            }
        }
        CHECK.due(name + ", and then all questions", got.size(), want.size());
    }

    /** Asked last: what changes the object. The pad is told by what it means as a lane and as a day. */
    private static List<Integer> answers(HeatDown x) {
        List<Integer> list = new ArrayList<>();
        askState(x, list);
        list.add(x.fault(0));
        list.add(x.fault(1));
        list.add(x.judge(0));
        list.add(x.judge(1));
        list.add(x.say('b'));
        list.add(x.fault(0));
        list.add(x.lane());
        list.add(x.wipe());
        askState(x, list);
        for (int n = 0; n < 2; n++) {
            list.add(x.restore(n));
            askState(x, list);
            list.add(x.forget());
        }
        return list;
    }

    private static void askState(HeatDown x, List<Integer> list) {
        for (int what = 0; what < 4; what++) {
            list.add(x.told(what));
        }
        for (int which = 10; which < 15; which++) {
            list.add(x.told(which));
        }
        for (int row = 20; row < 70; row += 10) {
            for (int kind = 0; kind < 6; kind++) {
                list.add(x.told(row + kind));
            }
        }
        for (int house = 0; house < x.told(1); house++) {
            for (int what = 0; what < 3; what++) {
                list.add(x.house(house, what));
            }
        }
        int count = x.fits(0, 0, -1);
        list.add(count);
        list.add(x.fits(0, 0, 0));
        list.add(x.fits(0, 0, count - 1));
        list.add(x.best(0, 0));
    }

    // ---- what is refused in every state

    private static void refusedAnywhere(Way way) {
        int houses = way.come().told(1);
        int last = houses - 1;
        refusedValues(way);
        refusedHours(way, houses);
        int[] noHouses = {-1, houses, MIN, MAX};
        for (int house : noHouses) {
            sameAfter("8: house", way, x -> x.house(house, 0), UNKNOWN);
            sameAfter("18: house", way, x -> x.felt(house, 0, 0), UNKNOWN);
            sameAfter("18: house, low, high", way, x -> x.felt(house, 1, 0), UNKNOWN);
        }
        int[] noEnds = {-1, houses + 1, MIN, MAX};
        for (int house : noEnds) {
            sameAfter("9: house", way, x -> x.at(0, 0, 0, house, 0), UNKNOWN);
            sameAfter("9: house, hour", way, x -> x.at(6, 0, 0, house, 0), UNKNOWN);
            sameAfter("15: place", way, x -> x.put(0, 0, house), UNKNOWN);
            sameAfter("15: place, hour", way, x -> x.put(6, 0, house), UNKNOWN);
        }
        sameAfter("8: what", way, x -> x.house(last, 3), OUTSIDE);
        sameAfter("18: low", way, x -> x.felt(last, -1, 5), OUTSIDE);
        sameAfter("18: high", way, x -> x.felt(last, 5, 1001), OUTSIDE);
        sameAfter("18: low above high", way, x -> x.felt(last, 6, 5), OUTSIDE);
        int[] noImages = {-1, 2, MIN, MAX};
        for (int n : noImages) {
            sameAfter("23: n", way, x -> x.image(n), OUTSIDE);
            sameAfter("24: n", way, x -> x.restore(n), OUTSIDE);
        }
        int[] notTold = {-1, 4, 15, 26, 70, MIN, MAX};
        for (int what : notTold) {
            sameAfter("25: what", way, x -> x.told(what), OUTSIDE);
        }
    }

    private static void refusedValues(Way way) {
        int[] low = {1, 0, 0, 1, 0};
        int[] high = {50, 1000, 300, 30, 300};
        for (int i = 0; i < 5; i++) {
            int which = i;
            sameAfter("2: below", way, x -> x.spring(which, low[which] - 1), OUTSIDE);
            sameAfter("2: above", way, x -> x.spring(which, high[which] + 1), OUTSIDE);
        }
        sameAfter("2: which", way, x -> x.spring(5, 1), UNKNOWN);
        sameAfter("2: which", way, x -> x.spring(-1, 1), UNKNOWN);
        int[] most = {1000, 1000, 9999, 99, 63};
        for (int i = 0; i < 5; i++) {
            int what = i;
            sameAfter("3: below", way, x -> x.kind(0, what, -1), OUTSIDE);
            sameAfter("3: above", way, x -> x.kind(5, what, most[what] + 1), OUTSIDE);
            sameAfter("3: no kind", way, x -> x.kind(6, what, 1), UNKNOWN);
            sameAfter("3: no kind", way, x -> x.kind(-1, what, 1), UNKNOWN);
        }
        sameAfter("3: what", way, x -> x.kind(0, 5, 1), OUTSIDE);
        sameAfter("3: what", way, x -> x.kind(5, -1, 1), OUTSIDE);
        sameAfter("4: sign", way, x -> x.say(32), OUTSIDE);
        sameAfter("4: sign", way, x -> x.say(127), OUTSIDE);
        sameAfter("6: how", way, x -> x.fault(2), OUTSIDE);
        sameAfter("6: how", way, x -> x.fault(-1), OUTSIDE);
        sameAfter("11: what", way, x -> x.judge(2), OUTSIDE);
        sameAfter("11: what", way, x -> x.judge(-1), OUTSIDE);
        sameAfter("22: seed", way, x -> x.winter(10000, 1, 0), OUTSIDE);
        sameAfter("22: seed", way, x -> x.winter(-1, 1, 0), OUTSIDE);
        sameAfter("22: days", way, x -> x.winter(0, 31, 0), OUTSIDE);
        sameAfter("22: days", way, x -> x.winter(0, 0, 0), OUTSIDE);
        sameAfter("22: what", way, x -> x.winter(0, 1, 2), OUTSIDE);
    }

    private static void refusedHours(Way way, int houses) {
        int[] noHours = {-1, 6, MIN, MAX};
        for (int hour : noHours) {
            sameAfter("9: hour", way, x -> x.at(hour, 0, 0, 0, 0), OUTSIDE);
            sameAfter("10: hour", way, x -> x.run(hour, 0, 0, 0), OUTSIDE);
            sameAfter("12: hour", way, x -> x.best(hour, 0), OUTSIDE);
            sameAfter("13: hour", way, x -> x.moss(hour, 0, 0), OUTSIDE);
            sameAfter("14: hour", way, x -> x.cools(hour, 0, 0), OUTSIDE);
            sameAfter("15: hour", way, x -> x.put(hour, 0, 0), OUTSIDE);
            sameAfter("16: hour", way, x -> x.where(hour, 0, 0), OUTSIDE);
            sameAfter("17: hour", way, x -> x.order(hour, 0), OUTSIDE);
            sameAfter("20: hour", way, x -> x.fits(hour, 0, 0), OUTSIDE);
            sameAfter("21: hour", way, x -> x.door(hour, 0, 0), OUTSIDE);
        }
        int[] noDraws = {-1, 1 << houses, MIN, MAX};
        for (int draws : noDraws) {
            sameAfter("9: draws", way, x -> x.at(0, 0, draws, 0, 0), OUTSIDE);
            sameAfter("10: draws", way, x -> x.run(0, 0, draws, 0), OUTSIDE);
            sameAfter("14: draws", way, x -> x.cools(0, 0, draws), OUTSIDE);
            sameAfter("20: draws", way, x -> x.fits(0, draws, 0), OUTSIDE);
            sameAfter("21: draws", way, x -> x.door(0, draws, 0), OUTSIDE);
        }
        int[] noBrooks = {-1, 1 << way.come().told(2), MIN, MAX};
        for (int brooks : noBrooks) {
            sameAfter("9: brooks", way, x -> x.at(0, brooks, 0, 0, 0), OUTSIDE);
            sameAfter("10: brooks", way, x -> x.run(0, brooks, 0, 0), OUTSIDE);
            sameAfter("14: brooks", way, x -> x.cools(0, brooks, 0), OUTSIDE);
        }
        sameAfter("9: what", way, x -> x.at(0, 0, 0, 0, 2), OUTSIDE);
        sameAfter("10: what", way, x -> x.run(0, 0, 0, 4), OUTSIDE);
        sameAfter("12: what", way, x -> x.best(0, 3), OUTSIDE);
        sameAfter("13: what", way, x -> x.moss(0, 0, 2), OUTSIDE);
        sameAfter("13: k", way, x -> x.moss(0, 9, 0), OUTSIDE);
        sameAfter("13: k", way, x -> x.moss(0, -1, 0), OUTSIDE);
        sameAfter("15: kind", way, x -> x.put(0, 6, 0), UNKNOWN);
        sameAfter("16: kind", way, x -> x.where(0, 6, 0), UNKNOWN);
        sameAfter("16: kind, hour, what", way, x -> x.where(6, -1, 2), UNKNOWN);
        sameAfter("16: what", way, x -> x.where(0, 0, 2), OUTSIDE);
        sameAfter("17: i", way, x -> x.order(0, houses), OUTSIDE);
        sameAfter("17: i", way, x -> x.order(0, -2), OUTSIDE);
        sameAfter("21: what", way, x -> x.door(0, 0, 2), OUTSIDE);
    }

    // ---- what only asks

    private static void unchanged(String name, Way way, Call call) {
        sameAfter(name, way, call, call.on(way.come()));
    }

    private static void askedAnywhere(Way way) {
        int houses = way.come().told(1);
        int brooks = (1 << way.come().told(2)) - 1;
        int draws = (1 << houses) - 1;
        unchanged("6: a lane's fault", way, x -> x.fault(0));
        unchanged("6: a day's fault", way, x -> x.fault(1));
        unchanged("8: asked", way, x -> x.house(houses - 1, 1));
        unchanged("9: asked", way, x -> x.at(5, brooks, draws, houses, 1));
        unchanged("10: asked", way, x -> x.run(5, brooks, draws, 3));
        unchanged("11: asked", way, x -> x.judge(1));
        unchanged("12: asked", way, x -> x.best(5, 2));
        unchanged("13: asked", way, x -> x.moss(5, 8, 0));
        unchanged("14: asked", way, x -> x.cools(5, brooks, draws));
        unchanged("15: asked", way, x -> x.put(5, 5, 0));
        unchanged("16: asked", way, x -> x.where(5, 0, 0));
        unchanged("17: asked", way, x -> x.order(5, 0));
        unchanged("20: asked", way, x -> x.fits(5, draws, 0));
        unchanged("20: no i-th", way, x -> x.fits(5, draws, -2));
        unchanged("21: asked", way, x -> x.door(5, draws, 0));
        unchanged("22: asked", way, x -> x.winter(9999, 30, 0));
        unchanged("25: asked", way, x -> x.told(3));
    }

    // ---- what is refused in some states

    private static void refusedFresh() {
        Way way = RefusalTests::fresh;
        sameAfter("7: an empty pad", way, HeatDown::lane, NO);
        sameAfter("11: an empty pad", way, x -> x.judge(0), NO);
        sameAfter("24: image 0 was not kept", way, x -> x.restore(0), STATE);
        sameAfter("24: image 1 was not kept", way, x -> x.restore(1), STATE);
        sameAfter("24: OUTSIDE ahead of STATE", way, x -> x.restore(2), OUTSIDE);
        sameAfter("11: OUTSIDE ahead of NO", way, x -> x.judge(2), OUTSIDE);
        sameAfter("5: nothing to wipe", way, HeatDown::wipe, 0);
        sameAfter("19: nothing to forget", way, HeatDown::forget, 0);
        sameAfter("24: image 0 was not kept, image 1 was", RefusalTests::someDay, x -> x.restore(0), STATE);
    }

    private static void refusedFull() {
        Way way = RefusalTests::full;
        sameAfter("4: a 49th sign", way, x -> x.say('b'), FULL);
        sameAfter("4: OUTSIDE ahead of FULL", way, x -> x.say(32), OUTSIDE);
        sameAfter("7: a day is no lane", way, HeatDown::lane, NO);
        for (int place = 0; place <= 8; place++) {
            int here = place;
            sameAfter("15: a ninth house", way, x -> x.put(0, 0, here), FULL);
        }
        sameAfter("15: UNKNOWN ahead of FULL", way, x -> x.put(0, 0, 9), UNKNOWN);
        sameAfter("15: OUTSIDE ahead of FULL", way, x -> x.put(6, 0, 0), OUTSIDE);
        sameAfter("16: a ninth house", way, x -> x.where(0, 0, 0), FULL);
        sameAfter("16: UNKNOWN ahead of FULL", way, x -> x.where(0, 6, 0), UNKNOWN);
        sameAfter("16: OUTSIDE ahead of FULL", way, x -> x.where(6, 0, 0), OUTSIDE);
        sameAfter("17: eight houses", way, x -> x.order(0, 7), FULL);
        sameAfter("17: OUTSIDE ahead of FULL", way, x -> x.order(0, 8), OUTSIDE);
        CHECK.due("20: all fit, so that one more felt would tell", full().fits(0, 0, -1), 16);
        sameAfter("18: a seventh", way, x -> x.felt(0, 0, 1000), FULL);
        sameAfter("18: a seventh that nothing would fit", way, x -> x.felt(7, 1000, 1000), FULL);
        sameAfter("18: UNKNOWN ahead of FULL", way, x -> x.felt(8, 0, 1000), UNKNOWN);
        sameAfter("18: OUTSIDE ahead of FULL", way, x -> x.felt(0, 1, 0), OUTSIDE);
    }

    private static void refusedByFault() {
        String[] faulty = {"x", "9", "*", "b*", "bbbbbbbbb", "*b*b*b*b*b", "b/", "B/////", "1/////", "//////", "////"};
        for (String text : faulty) {
            for (String lane : new String[] {"b", "bdrchlbd"}) {
                Way way = () -> {
                    HeatDown x = Check.withLane(lane);
                    x.felt(0, 10, 900);
                    Check.type(x, text);
                    return x;
                };
                sameAfter("7: NO by " + text, way, HeatDown::lane, NO);
                if (way.come().fault(1) != NONE) {
                    sameAfter("11: NO by " + text, way, x -> x.judge(1), NO);
                }
            }
        }
    }

    // ---- a call answers for any arguments in any state

    private static void farArguments(List<Way> ways) {
        int[] far = {MIN, MIN + 1, -65536, -7, -2, -1, 0, 1, 2, 5, 6, 7, 8, 9, 31, 32, 33, 255, 256, 65536, MAX - 1, MAX};
        for (Way way : ways) {
            for (int a : far) {
                for (int b : far) {
                    askFar(way.come(), a, b, far);
                }
            }
        }
        for (String lane : LANES) {
            for (int a : far) {
                for (int b : far) {
                    changeFar(Check.withLane(lane), a, b, far);
                }
            }
        }
    }

    private static void askFar(HeatDown x, int a, int b, int[] far) {
        int known = inBounds(x.house(a, b)) + inBounds(x.best(a, b)) + inBounds(x.order(a, b));
        known += inBounds(x.told(a)) + inBounds(x.judge(a)) + inBounds(x.fault(a));
        for (int c : far) {
            known += inBounds(x.run(a, b, c, 0)) + inBounds(x.at(a, b, c, b, a)) + inBounds(x.at(0, 0, a, b, c));
            known += inBounds(x.cools(a, b, c)) + inBounds(x.put(a, b, c)) + inBounds(x.where(a, b, c));
            known += inBounds(x.fits(a, b, c)) + inBounds(x.door(a, b, c)) + inBounds(x.winter(a, b, c));
            known += inBounds(x.moss(a, b, c));
        }
        CHECK.due("any arguments, " + a + ", " + b, known, 6 + 10 * far.length);
    }

    private static void changeFar(HeatDown x, int a, int b, int[] far) {
        int known = inBounds(x.say(a)) + inBounds(x.image(a)) + inBounds(x.restore(a)) + inBounds(x.spring(a, b));
        for (int c : far) {
            known += inBounds(x.kind(a, b, c)) + inBounds(x.felt(a, b, c)) + inBounds(x.run(0, 0, 1, 0));
        }
        known += inBounds(x.lane()) + inBounds(x.moss(0, 8, 1)) + inBounds(x.winter(1, 30, 0));
        CHECK.due("any arguments that change, " + a + ", " + b, known, 7 + 3 * far.length);
    }

    /** No answer is below NONE, and none is above the most winter or heat that there may be. */
    private static int inBounds(int answer) {
        return answer >= NONE && answer <= 200000 ? 1 : 0;
    }
}
