import java.util.ArrayList;
import java.util.List;
import java.util.Random;

/** Draws calls, mostly such that are answered; the same seed draws the same calls. */
final class Drawn {
    private static final String DEEDS = "_^/%";
    private static final int[] FAR = {Integer.MIN_VALUE, Integer.MAX_VALUE, Integer.MIN_VALUE + 1, -2, -7, 1000};

    private final Random random;
    /** A rhythm by which most evenings are seen, so that some fit for long. */
    private final int m, c, f;
    private String planned = "";

    Drawn(long seed) {
        random = new Random(seed);
        m = 2 + below(6);
        c = 1 + below(m - 1);
        f = below(m);
    }

    int below(int end) {
        return random.nextInt(end);
    }

    /** A call of that kind, or none: what empties the pad or the sights is made seldom, so that these fill. */
    List<Step> some(Kind kind) {
        boolean seldom = below(4) == 0;
        List<Step> steps = new ArrayList<>();
        if (kind == Kind.SAY) {
            addSigns(steps);
        } else if (kind != Kind.WIPE && kind != Kind.FORGET || seldom) {
            steps.add(one(kind));
        }
        return steps;
    }

    Step one(Kind kind) {
        int[] numbers = new int[kind.limits.length];
        for (int i = 0; i < numbers.length; i++) {
            numbers[i] = number(kind.limits[i]);
        }
        if (kind == Kind.WIPE) {
            planned = "";
        } else if (numbers.length > 0) {
            favour(kind, numbers);
        }
        return new Step(kind, numbers);
    }

    /** Where most numbers would lead to the same answer, or to none, others are put in their place. */
    private void favour(Kind kind, int[] p) {
        switch (kind) {
            case TREATY -> p[2] = below(4) == 0 ? 0 : 1;
            case PAY -> p[2] = below(2) == 0 ? number(Limit.to(25)) : p[2];
            case SAY -> p[0] = sign();
            case SEES -> p[1] = below(2) == 0 ? number(Limit.to(30)) : p[1];
            case SEEN -> p[1] = below(8) == 0 ? p[1] : (Math.floorMod(p[0], 61) + f) % m < c ? 1 : 0;
            case FITS -> p[0] = below(2) == 0 ? -1 : number(new Limit(-1, 112 >> below(7), VeilNations.NONE));
            case TOLD -> p[0] = below(4) == 0 ? p[0] : toldOf(below(5));
            default -> { }
        }
    }

    private int toldOf(int group) {
        switch (group) {
            case 0:
                return below(5);
            case 1:
                return 10 + below(8);
            case 2:
                return 20 + below(6);
            case 3:
                return 30 + below(6);
            default:
                return 100 + 10 * below(8) + below(3);
        }
    }

    private int number(Limit limit) {
        if (limit.refusal() == 0) {
            return below(2);
        }
        int odd = below(60);
        if (odd == 0) {
            return below(2) == 0 ? limit.least() - 1 : limit.most() + 1;
        }
        return odd == 1 ? FAR[below(FAR.length)] : limit.least() + below(limit.most() - limit.least() + 1);
    }

    // Several at once, and the rest of an act more often than not, so that most texts have no fault.
    private void addSigns(List<Step> steps) {
        int count = planned.isEmpty() ? 1 + below(12) : planned.length();
        for (int i = 0; i < count; i++) {
            steps.add(one(Kind.SAY));
        }
    }

    private int sign() {
        if (planned.isEmpty()) {
            planned = act();
        }
        int sign = planned.charAt(0);
        planned = planned.substring(1);
        return below(80) == 0 ? number(Kind.SAY.limits[0]) : sign;
    }

    private String act() {
        char a = (char) ('A' + below(8));
        char b = (char) ('A' + below(8));
        switch (below(9)) {
            case 0:
                return "" + a + 'x' + b;
            case 1:
                return "" + a + '~' + b;
            case 2:
                return "g" + (1 + below(9));
            case 3:
                return ".";
            case 4:
                return a + "_";
            case 5:
                return b + "_" + a + 'x' + b;
            case 6:
                return a + "/" + a + '%';
            default:
                return "" + a + DEEDS.charAt(below(4));
        }
    }
}
