import java.util.ArrayList;
import java.util.EnumMap;
import java.util.List;
import java.util.Map;

/**
 * Each number that a call takes: the least and the greatest that are allowed, one beside them and far off, in each
 * situation. What is refused gets the refusal that is due first and changes nothing; what is not is answered, and
 * changes what it changes, as the twin has it.
 */
public final class BoundsTest {
    private static final int UNKNOWN = -1, OUTSIDE = -2, STATE = -3, FULL = -4, NONE = -6;
    private static final long GONE = -1000000000000000000L;
    private static final int LOW = Integer.MIN_VALUE, HIGH = Integer.MAX_VALUE;

    /** A number of a call: those that are allowed at the edges, those that are not, and what these are refused with. */
    private record Bound(int[] right, int[] wrong, int refusal) {
        boolean allows(int number) {
            for (int one : right) {
                if (one == number) {
                    return true;
                }
            }
            return false;
        }
    }

    private interface Call {
        long of(Women women, int... p);
    }

    private static final Bound ONE = bound(0, 7, UNKNOWN);
    private static final Bound YES_OR_NO = new Bound(new int[] {0, 1}, new int[0], OUTSIDE);

    private final String name;
    private final Call call;
    private final Bound[] bounds;

    private BoundsTest(String name, Call call, Bound... bounds) {
        this.name = name;
        this.call = call;
        this.bounds = bounds;
    }

    public static void main(String[] args) {
        tell("one", (w, p) -> w.one(p[0], p[1], p[2], p[3], p[4]), ONE, to(3), to(1), from(1, 9), to(9));
        tell("treaty", (w, p) -> w.treaty(p[0], p[1], p[2] == 1), ONE, ONE, YES_OR_NO);
        tell("hair", (w, p) -> w.hair(p[0]), to(99));
        tell("pay", (w, p) -> w.pay(p[0], p[1], p[2]), bound(0, 5, UNKNOWN), from(1, 9), to(99));
        tell("say", (w, p) -> w.say(p[0]), from(33, 126));
        tell("wipe", (w, p) -> w.wipe());
        tell("fault", (w, p) -> w.fault());
        tell("judge", (w, p) -> w.judge(p[0]), to(2));
        tell("behind", (w, p) -> w.behind(p[0], p[1]), ONE, to(3));
        tell("states", (w, p) -> w.states(p[0]), to(6));
        tell("annexed", (w, p) -> w.annexed(p[0]), to(1));
        tell("done", (w, p) -> w.done());
        tell("sees", (w, p) -> w.sees(p[0], p[1]), ONE, to(99));
        tell("camps", (w, p) -> w.camps(p[0]), to(1));
        tell("late", (w, p) -> w.late(p[0]), to(1));
        Bound worth = from(1, 20);
        tell("stamps", (w, p) -> w.stamps(p[0], p[1], p[2], p[3], p[4]), worth, worth, worth, to(200), to(2));
        tell("seen", (w, p) -> w.seen(p[0], p[1] == 1), to(60), YES_OR_NO);
        tell("forget", (w, p) -> w.forget());
        tell("fits", (w, p) -> w.fits(p[0]), new Bound(new int[] {-1, 0, 1}, new int[] {-2, LOW, 112, HIGH}, NONE));
        tell("ask", (w, p) -> w.ask(p[0]), to(1));
        tell("lift", (w, p) -> w.lift(p[0]), to(1));
        tell("votes", (w, p) -> w.votes(p[0], p[1], p[2], p[3]), to(20), to(20), to(1), to(1));
        tell("year", (w, p) -> w.year(p[0], p[1], p[2]), to(9999), from(1, 99), to(2));
        tell("image", (w, p) -> w.image(p[0]), to(1));
        tell("restore", (w, p) -> w.restore(p[0]), to(1));
        tell("told", (w, p) -> w.told(p[0]), ofTold());
        Checks.end();
    }

    private static Bound bound(int least, int most, int refusal) {
        int[] right = most - least > 6 ? new int[] {least, most} : new int[most - least + 1];
        for (int i = 0; i < right.length; i++) {
            right[i] = i == right.length - 1 ? most : least + i;
        }
        return new Bound(right, new int[] {least - 1, most + 1, LOW, HIGH}, refusal);
    }

    private static Bound from(int least, int most) {
        return bound(least, most, OUTSIDE);
    }

    private static Bound to(int most) {
        return bound(0, most, OUTSIDE);
    }

    private static Bound ofTold() {
        int[] right = {0, 1, 2, 3, 4, 10, 17, 20, 25, 30, 35, 100, 101, 102, 110, 112, 170, 171, 172};
        int[] wrong = {-1, 5, 9, 18, 19, 26, 29, 36, 40, 99, 103, 109, 113, 173, 179, 180, 200, LOW, HIGH};
        return new Bound(right, wrong, OUTSIDE);
    }

    private static void tell(String name, Call call, Bound... bounds) {
        BoundsTest test = new BoundsTest(name, call, bounds);
        Checks.check("bounds of " + name, () -> {
            for (Situation situation : Situation.values()) {
                test.tryAll(situation);
            }
        });
    }

    private void tryAll(Situation situation) {
        for (int[] p : numbers()) {
            long refusal = refusal(situation, p);
            if (refusal != 0) {
                tryRefused(situation, p, refusal);
            } else {
                tryAnswered(situation, p);
            }
        }
    }

    /** All combinations of numbers of which two are wrong at the most. */
    private List<int[]> numbers() {
        List<int[]> all = new ArrayList<>();
        gather(all, new int[bounds.length], 0, 0);
        return all;
    }

    private void gather(List<int[]> all, int[] numbers, int i, int wrongs) {
        if (i == numbers.length) {
            all.add(numbers.clone());
            return;
        }
        for (int right : bounds[i].right) {
            numbers[i] = right;
            gather(all, numbers, i + 1, wrongs);
        }
        for (int wrong : bounds[i].wrong) {
            numbers[i] = wrong;
            if (wrongs < 2) {
                gather(all, numbers, i + 1, wrongs + 1);
            }
        }
    }

    private long refusal(Situation situation, int[] p) {
        int first = firstRefusal(p);
        if (first == 0) {
            first = refusalBySituation(situation, p);
        }
        return first != 0 && name.equals("votes") ? GONE + first : first;
    }

    private int firstRefusal(int[] p) {
        int first = name.equals("treaty") && p[0] == p[1] ? UNKNOWN : 0;
        for (int i = 0; i < p.length; i++) {
            if (!bounds[i].allows(p[i]) && (first == 0 || bounds[i].refusal == UNKNOWN)) {
                first = bounds[i].refusal;
            }
        }
        return first;
    }

    private int refusalBySituation(Situation situation, int[] p) {
        switch (name) {
            case "judge":
                int refusal = situation.refusalOfText();
                return refusal == STATE && p[0] != 2 ? 0 : refusal;
            case "behind":
            case "states":
            case "annexed":
            case "done":
                return situation.refusalOfText();
            case "restore":
                return situation.isImageKept(p[0]) ? 0 : STATE;
            case "say":
            case "seen":
                return situation == Situation.FULL ? FULL : 0;
            default:
                return 0;
        }
    }

    private void tryRefused(Situation situation, int[] p, long refusal) {
        Counted women = new Counted();
        situation.make(women);
        Checks.due(told(situation, p), refusal, call.of(women, p));
        compare(situation, p, Untouched.in(situation), women);
    }

    private void tryAnswered(Situation situation, int[] p) {
        Counted women = new Counted();
        Twin twin = new Twin();
        situation.make(women);
        situation.make(twin);
        Checks.due(told(situation, p), call.of(twin, p), call.of(women, p));
        compare(situation, p, Snapshot.of(twin), women);
    }

    private void compare(Situation situation, int[] p, Snapshot due, Women women) {
        String difference = Snapshot.of(women).differenceTo(due);
        if (difference != null) {
            Checks.wrong("after " + told(situation, p) + " " + difference);
        }
    }

    private String told(Situation situation, int[] p) {
        StringBuilder text = new StringBuilder(situation + ": " + name + "(");
        for (int i = 0; i < p.length; i++) {
            text.append(i == 0 ? "" : ", ").append(p[i]);
        }
        return text.append(")").toString();
    }

    /** What the twin answers where nothing has been called. */
    private static final class Untouched {
        private static final Map<Situation, Snapshot> SNAPSHOTS = new EnumMap<>(Situation.class);

        static Snapshot in(Situation situation) {
            return SNAPSHOTS.computeIfAbsent(situation, made -> {
                Twin twin = new Twin();
                made.make(twin);
                return Snapshot.of(twin);
            });
        }
    }
}
