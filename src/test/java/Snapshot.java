import java.util.ArrayList;
import java.util.List;

/** What an object answers when it is asked about everything; two objects of one state answer alike. It spends the object. */
final class Snapshot {
    private final Women women;
    private final List<String> names = new ArrayList<>();
    private final List<Long> answers = new ArrayList<>();

    private Snapshot(Women women) {
        this.women = women;
    }

    static Snapshot of(Women women) {
        Snapshot all = new Snapshot(women);
        all.askWhatIsTold("");
        all.askText();
        all.askNow("");
        for (int k = 0; k < 2; k++) {
            String behind = " of image " + k;
            all.put("restore" + behind, women.restore(k));
            all.askWhatIsTold(behind);
            all.askNow(behind);
        }
        all.put("done", women.done());
        all.put("wipe", women.wipe());
        return all;
    }

    /** The first call that is answered otherwise, or null. */
    String differenceTo(Snapshot due) {
        for (int i = 0; i < answers.size(); i++) {
            if (!answers.get(i).equals(due.answers.get(i))) {
                return names.get(i) + " answered " + answers.get(i) + ", due is " + due.answers.get(i);
            }
        }
        return null;
    }

    private void put(String name, long answer) {
        names.add(name);
        answers.add(answer);
    }

    private void askWhatIsTold(String behind) {
        for (int what = 0; what < 180; what++) {
            boolean ofAll = what <= 4 || what >= 10 && what <= 17;
            boolean ofCalls = what >= 20 && what <= 25 || what >= 30 && what <= 35;
            if (ofAll || ofCalls || what >= 100 && what % 10 <= 2) {
                put("told(" + what + ")" + behind, women.told(what));
            }
        }
    }

    private void askText() {
        put("fault", women.fault());
        for (int what = 0; what < 7; what++) {
            put("states(" + what + ")", women.states(what));
        }
        for (int one = 0; one < 8; one++) {
            for (int what = 0; what < 4; what++) {
                put("behind(" + one + ", " + what + ")", women.behind(one, what));
            }
        }
        for (int what = 0; what < 3; what++) {
            put("judge(" + what + ")", women.judge(what));
        }
        for (int what = 0; what < 2; what++) {
            put("annexed(" + what + ")", women.annexed(what));
        }
    }

    private void askNow(String behind) {
        int count = women.fits(-1);
        put("fits(-1)" + behind, count);
        for (int i = 0; i < 3; i++) {
            put("fits, one of them" + behind, women.fits(i * count / 3));
        }
        for (int what = 0; what < 2; what++) {
            put("camps(" + what + ")" + behind, women.camps(what));
            put("late(" + what + ")" + behind, women.late(what));
            put("ask(" + what + ")" + behind, women.ask(what));
            put("lift(" + what + ")" + behind, women.lift(what));
            put("year(77, 60, " + what + ")" + behind, women.year(77, 60, what));
        }
        put("sees(5, 9)" + behind, women.sees(5, 9));
    }
}
