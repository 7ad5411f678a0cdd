/** What tests by hand share. */
abstract class ByHand {
    static final int UNKNOWN = -1, OUTSIDE = -2, STATE = -3, FULL = -4, NO = -5, NONE = -6;
    static final long GONE = -1000000000000000000L;
    static final int LOW = Integer.MIN_VALUE, HIGH = Integer.MAX_VALUE;

    static void due(String call, long want, long got) {
        Checks.due(call, want, got);
    }

    /** Puts a text on the pad, in place of what stood there. */
    static void write(Counted x, String text) {
        x.wipe();
        for (int i = 0; i < text.length(); i++) {
            due("say in " + text, i + 1, x.say(text.charAt(i)));
        }
    }

    static Counted after(String text) {
        Counted x = new Counted();
        write(x, text);
        return x;
    }

    /** The act that can not be, and why; NONE if all can be. */
    static void judged(Counted x, String text, int act, int why) {
        write(x, text);
        due("judge(0) of " + text, act, x.judge(0));
        due("judge(1) of " + text, why, x.judge(1));
        if (act != NONE) {
            due("judge(2) of " + text, STATE, x.judge(2));
        }
    }

    /** Days go by until there is none more. */
    static void passAllDays(Counted x) {
        write(x, ".".repeat(60));
        due("sixty days", 60, x.done());
        write(x, ".".repeat(39));
        due("the other days", 39, x.done());
    }
}
