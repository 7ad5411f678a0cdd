import java.util.ArrayList;
import java.util.EnumMap;
import java.util.List;
import java.util.Map;

/**
 * Each number that a call takes: the least and the greatest that are allowed, one beside them and far off, in each
 * situation. What is refused gets the refusal that is due first and changes nothing; what is not is answered, and
 * changes what it changes, as the twin has it.
 */
public final class BoundsTest {
    private static final int UNKNOWN = -1, OUTSIDE = -2, STATE = -3, FULL = -4, NONE = -6;
    private static final long GONE = -1000000000000000000L;
    private static final int LOW = Integer.MIN_VALUE, HIGH = Integer.MAX_VALUE;

    /** A number of a call: those that are allowed at the edges, and those that are not. */
    private record Bound(int[] right, int[] wrong) {
        static Bound of(Limit limit) {
            if (limit.refusal() == 0) {
                return new Bound(new int[] {0, 1}, new int[0]);
            }
            int least = limit.least();
            int most = limit.most();
            int[] right = most - least > 6 ? new int[] {least, most} : new int[most - least + 1];
            for (int i = 0; i < right.length; i++) {
                right[i] = i == right.length - 1 ? most : least + i;
            }
            return new Bound(right, new int[] {least - 1, most + 1, LOW, HIGH});
        }

        boolean allows(int number) {
            for (int one : right) {
                if (one == number) {
                    return true;
                }
            }
            return false;
        }
    }

    private final Kind kind;
    private final Bound[] bounds;

    private BoundsTest(Kind kind) {
        this.kind = kind;
        bounds = new Bound[kind.limits.length];
        for (int i = 0; i < bounds.length; i++) {
            bounds[i] = boundOf(kind, i);
        }
    }

    public static void main(String[] args) {
        for (Kind kind : Kind.values()) {
            BoundsTest test = new BoundsTest(kind);
            Checks.check("bounds of " + kind.call(), () -> {
                for (Situation situation : Situation.values()) {
                    test.tryAll(situation);
                }
            });
        }
        Checks.end();
    }

    private static Bound boundOf(Kind kind, int i) {
        switch (kind) {
            case FITS:
                return new Bound(new int[] {-1, 0, 1}, new int[] {-2, LOW, 112, HIGH});
            case TOLD:
                return new Bound(new int[] {0, 1, 2, 3, 4, 10, 17, 20, 25, 30, 35, 100, 101, 102, 110, 112, 170, 171, 172},
                        new int[] {-1, 5, 9, 18, 19, 26, 29, 36, 40, 99, 103, 109, 113, 173, 179, 180, 200, LOW, HIGH});
            default:
                return Bound.of(kind.limits[i]);
        }
    }

    private void tryAll(Situation situation) {
        for (int[] p : numbers()) {
            long refusal = refusal(situation, p);
            if (refusal != 0) {
                tryRefused(situation, p, refusal);
            } else {
                tryAnswered(situation, p);
            }
        }
    }

    /** All combinations of numbers of which two are wrong at the most. */
    private List<int[]> numbers() {
        List<int[]> all = new ArrayList<>();
        gather(all, new int[bounds.length], 0, 0);
        return all;
    }

    private void gather(List<int[]> all, int[] numbers, int i, int wrongs) {
        if (i == numbers.length) {
            all.add(numbers.clone());
            return;
        }
        for (int right : bounds[i].right) {
            numbers[i] = right;
            gather(all, numbers, i + 1, wrongs);
        }
        for (int wrong : bounds[i].wrong) {
            numbers[i] = wrong;
            if (wrongs < 2) {
                gather(all, numbers, i + 1, wrongs + 1);
            }
        }
    }

    private long refusal(Situation situation, int[] p) {
        int first = firstRefusal(p);
        if (first == 0) {
            first = refusalBySituation(situation, p);
        }
        return first != 0 && kind == Kind.VOTES ? GONE + first : first;
    }

    private int firstRefusal(int[] p) {
        int first = kind == Kind.TREATY && p[0] == p[1] ? UNKNOWN : 0;
        for (int i = 0; i < p.length; i++) {
            int refusal = kind.limits[i].refusal();
            if (!bounds[i].allows(p[i]) && (first == 0 || refusal == UNKNOWN)) {
                first = refusal;
            }
        }
        return first;
    }

    private int refusalBySituation(Situation situation, int[] p) {
        switch (kind) {
            case JUDGE:
                int refusal = situation.refusalOfText();
                return refusal == STATE && p[0] != 2 ? 0 : refusal;
            case BEHIND:
            case STATES:
            case ANNEXED:
            case DONE:
                return situation.refusalOfText();
            case RESTORE:
                return situation.isImageKept(p[0]) ? 0 : STATE;
            case SAY:
            case SEEN:
                return situation == Situation.FULL ? FULL : 0;
            default:
                return 0;
        }
    }

    private void tryRefused(Situation situation, int[] p, long refusal) {
        Counted women = new Counted();
        situation.make(women);
        Checks.due(told(situation, p), refusal, kind.of(women, p));
        compare(situation, p, Untouched.in(situation), women);
    }

    private void tryAnswered(Situation situation, int[] p) {
        Counted women = new Counted();
        Twin twin = new Twin();
        situation.make(women);
        situation.make(twin);
        Checks.due(told(situation, p), kind.of(twin, p), kind.of(women, p));
        compare(situation, p, Snapshot.of(twin), women);
    }

    private void compare(Situation situation, int[] p, Snapshot due, Women women) {
        String difference = Snapshot.of(women).differenceTo(due);
        if (difference != null) {
            Checks.wrong("after " + told(situation, p) + " " + difference);
        }
    }

    private String told(Situation situation, int[] p) {
        return situation + ": " + new Step(kind, p);
    }

    /** What the twin answers where nothing has been called. */
    private static final class Untouched {
        private static final Map<Situation, Snapshot> SNAPSHOTS = new EnumMap<>(Situation.class);

        static Snapshot in(Situation situation) {
            return SNAPSHOTS.computeIfAbsent(situation, made -> {
                Twin twin = new Twin();
                made.make(twin);
                return Snapshot.of(twin);
            });
        }
    }
}
