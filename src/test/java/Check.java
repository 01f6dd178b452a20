/** Counts the answers that are not as due; ends the program with 1 if there was one. */
final class Check {
    private final String name;
    private int asked = 0;
    private int wrong = 0;

    Check(String name) {
        this.name = name;
    }

    void due(String call, long got, long want) {
        asked++;
        if (got != want) {
            wrong++;
            System.out.println(name + ": " + call + " answered " + got + ", due is " + want);
        }
    }

    void holds(String what, boolean held) {
        due(what, held ? 1 : 0, 1);
    }

    boolean failed() {
        return wrong > 0;
    }

    void end() {
        System.out.println(name + ": " + asked + " asked, " + wrong + " wrong");
        if (wrong > 0) {
            System.exit(1);
        }
    }

    static void type(HeatDown x, String text) {
        for (int i = 0; i < text.length(); i++) {
            x.say(text.charAt(i));
        }
    }

    /** A new object with that lane. */
    static HeatDown withLane(String text) {
        HeatDown x = new HeatDown();
        type(x, text);
        x.lane();
        return x;
    }

    /** Like withLane, but of one litre, so that Q is WARMTH: no AIR, brooks of one litre of 0 tenths, all kinds willing. */
    static HeatDown oneLitre(String lane, int warmth) {
        HeatDown x = withLane(lane);
        x.spring(0, 1);
        x.spring(1, warmth);
        x.spring(2, 0);
        x.spring(3, 1);
        x.spring(4, 0);
        for (int kind = 0; kind < 6; kind++) {
            values(x, kind, 0, 1000, 0, 1);
        }
        return x;
    }

    /** NEED, MOST, WANT, WORTH of a kind. */
    static void values(HeatDown x, int kind, int need, int most, int want, int worth) {
        x.kind(kind, 0, need);
        x.kind(kind, 1, most);
        x.kind(kind, 2, want);
        x.kind(kind, 3, worth);
    }

    /** The pad holds that text alone. */
    static void pad(HeatDown x, String text) {
        x.wipe();
        type(x, text);
    }
}
