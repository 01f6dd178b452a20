/** Counts the answers that are not as due; ends the program with 1 if there was one. */
final class Check {
    private final String name;
    private int asked = 0;
    private int wrong = 0;

    Check(String name) {
        this.name = name;
    }

    void due(String call, long got, long want) {
        asked++;
        if (got != want) {
            wrong++;
            System.out.println(name + ": " + call + " answered " + got + ", due is " + want);
        }
    }

    void holds(String what, boolean held) {
        due(what, held ? 1 : 0, 1);
    }

    boolean failed() {
        return wrong > 0;
    }

    void end() {
        System.out.println(name + ": " + asked + " asked, " + wrong + " wrong");
        if (wrong > 0) {
            System.exit(1);
        }
    }

    static void type(HeatDown x, String text) {
        for (int i = 0; i < text.length(); i++) {
            x.say(text.charAt(i));
        }
    }

    /** A new object with that lane. */
    static HeatDown withLane(String text) {
        HeatDown x = new HeatDown();
        type(x, text);
        x.lane();
        return x;
    }
}
