import java.util.Collections;
import java.util.LinkedHashMap;
import java.util.Map;
import java.util.Set;

/** What an object answers when it is asked about everything; two objects of one state answer alike. It spends the object. */
final class Snapshot {
    /** How many calls it takes at the most. */
    static final int CALLS = 239;

    private static final Held[] ACTED_ON = {Held.ONES, Held.TREATIES, Held.HAIR, Held.DAY, Held.PAD};

    private record Answer(long answer, Set<Held> of) { }

    private final Women women;
    private final Map<String, Answer> answers = new LinkedHashMap<>();
    /** Which image has been restored, or -1: then all is as it was. */
    private int image = -1;

    private Snapshot(Women women) {
        this.women = women;
    }

    static Snapshot of(Women women) {
        Snapshot all = new Snapshot(women);
        all.put("told(0)", women.told(0), Held.PAD);
        all.askWhatIsTold();
        all.askText();
        all.askNow();
        for (int k = 0; k < 2; k++) {
            all.image = k;
            all.askImage();
        }
        all.image = -1;
        all.put("done() at last", women.done(), Held.values());
        all.put("wipe() at last", women.wipe(), Held.values());
        return all;
    }

    /** How a call's answer is named when it is asked about what an image keeps. */
    static String ofImage(String call, int k) {
        return call + " of image " + k;
    }

    long answer(String call) {
        return answers.get(call).answer;
    }

    boolean has(String call) {
        return answers.containsKey(call);
    }

    Set<String> calls() {
        return answers.keySet();
    }

    /** The first call that is answered otherwise, or null. */
    String differenceTo(Snapshot due) {
        return differenceBeside(Set.of(), due);
    }

    /** The first call that is answered otherwise, of those that tell of nothing of what may have changed; or null. */
    String differenceBeside(Set<Held> changed, Snapshot due) {
        for (Map.Entry<String, Answer> entry : due.answers.entrySet()) {
            String call = entry.getKey();
            Answer want = entry.getValue();
            Answer got = answers.get(call);
            if (Collections.disjoint(want.of, changed) && (got == null || got.answer != want.answer)) {
                return call + " answered " + (got == null ? "nothing" : got.answer) + ", due is " + want.answer;
            }
        }
        return null;
    }

    private void put(String call, long answer, Held... now) {
        if (image < 0) {
            answers.put(call, new Answer(answer, Set.of(now)));
        } else {
            answers.put(ofImage(call, image), new Answer(answer, Set.of(Held.image(image))));
        }
    }

    private void askImage() {
        int restored = women.restore(image);
        put("restored", restored);
        if (restored == 1) {
            askWhatIsTold();
            askNow();
        }
    }

    private void askWhatIsTold() {
        askTold(1, Held.ONES);
        askTold(2, Held.HAIR);
        askTold(3, Held.DAY);
        askTold(4, Held.SIGHTS);
        for (int one = 0; one < 8; one++) {
            askTold(10 + one, Held.TREATIES);
            for (int what = 0; what < 3; what++) {
                askTold(100 + 10 * one + what, Held.ONES);
            }
        }
        for (int call = 0; call < 6; call++) {
            askTold(20 + call, Held.CALLS);
            askTold(30 + call, Held.CALLS);
        }
    }

    private void askTold(int what, Held held) {
        put("told(" + what + ")", women.told(what), held);
    }

    private void askText() {
        put("fault()", women.fault(), Held.PAD);
        for (int what = 0; what < 7; what++) {
            put("states(" + what + ")", women.states(what), ACTED_ON);
        }
        for (int one = 0; one < 8; one++) {
            for (int what = 0; what < 4; what++) {
                put("behind(" + one + ", " + what + ")", women.behind(one, what), ACTED_ON);
            }
        }
        for (int what = 0; what < 3; what++) {
            put("judge(" + what + ")", women.judge(what), ACTED_ON);
        }
        for (int what = 0; what < 2; what++) {
            put("annexed(" + what + ")", women.annexed(what), ACTED_ON);
        }
    }

    private void askNow() {
        int count = women.fits(-1);
        put("fits(-1)", count, Held.SIGHTS);
        for (int i = 0; i < 3; i++) {
            put("fits, " + i + " thirds on", women.fits(i * count / 3), Held.SIGHTS);
        }
        for (int what = 0; what < 2; what++) {
            put("camps(" + what + ")", women.camps(what), Held.ONES, Held.TREATIES);
            put("late(" + what + ")", women.late(what), Held.CALLS);
            put("ask(" + what + ")", women.ask(what), Held.SIGHTS);
            put("lift(" + what + ")", women.lift(what), Held.ONES);
            put("year(77, 60, " + what + ")", women.year(77, 60, what), Held.ONES, Held.TREATIES, Held.DAY);
        }
        put("sees(5, 9)", women.sees(5, 9), Held.ONES);
    }
}
