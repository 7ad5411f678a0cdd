import java.util.Random;
import java.util.function.ToLongFunction;

/** Runs of 512 drawn calls, each answered by the class as by its twin; the seeds are fixed, so each run is the same. */
public final class TwinTest {
    private static final int RUNS = 240, LAST_CALLS = 60;
    private static final String DEEDS = "_^/%";

    private final Random random;
    private final Counted real = new Counted();
    private final Twin twin = new Twin();
    private String planned = "";

    private TwinTest(long seed) {
        random = new Random(seed);
    }

    public static void main(String[] args) {
        Checks.check("drawn calls of all kinds", () -> runs(0, 26));
        Checks.check("drawn calls of acts and days", () -> runs(6, 14));
        Checks.check("stamps of all worths", TwinTest::allStamps);
        Checks.check("votes of all numbers", TwinTest::allVotes);
        Checks.check("all lifts", TwinTest::allLifts);
        Checks.check("all seeds of short years", TwinTest::allYears);
        Checks.end();
    }

    private static void runs(int firstKind, int endKind) {
        for (int seed = 0; seed < RUNS; seed++) {
            TwinTest run = new TwinTest(1000003L * firstKind + seed);
            if (firstKind > 0) {
                run.dressAll();
            }
            while (run.real.left() > LAST_CALLS) {
                run.call(firstKind + run.random.nextInt(endKind - firstKind));
            }
            run.askWhatIsTold();
        }
    }

    /** Asks both, as long as the document promises an answer. */
    private void same(String call, ToLongFunction<Women> asked) {
        if (real.left() > 0) {
            Checks.due(call, asked.applyAsLong(twin), asked.applyAsLong(real));
        }
    }

    private void dressAll() {
        for (int one = 0; one < 8; one++) {
            int who = one;
            int nation = random.nextInt(4);
            int down = random.nextInt(2);
            int mesh = 1 + random.nextInt(9);
            int tears = random.nextInt(10);
            same("one", w -> w.one(who, nation, down, mesh, tears));
        }
    }

    private void askWhatIsTold() {
        for (int what = 0; what < 182; what++) {
            int asked = what;
            if (what < 40 && what % 10 < 9 || what >= 98 && what % 10 <= 2) {
                same("told " + what, w -> w.told(asked));
            }
        }
    }

    private int draw(int least, int most) {
        int odd = random.nextInt(60);
        if (odd == 0) {
            return random.nextBoolean() ? least - 1 : most + 1;
        }
        if (odd == 1) {
            int[] far = {Integer.MIN_VALUE, Integer.MAX_VALUE, Integer.MIN_VALUE + 1, -2, -7, 1000};
            return far[random.nextInt(far.length)];
        }
        return least + random.nextInt(most - least + 1);
    }

    private int sign() {
        if (planned.isEmpty()) {
            planned = act();
        }
        int sign = planned.charAt(0);
        planned = planned.substring(1);
        return random.nextInt(80) == 0 ? draw(33, 126) : sign;
    }

    private String act() {
        char a = (char) ('A' + random.nextInt(8));
        char b = (char) ('A' + random.nextInt(8));
        switch (random.nextInt(7)) {
            case 0:
                return "" + a + 'x' + b;
            case 1:
                return "" + a + '~' + b;
            case 2:
                return "g" + (1 + random.nextInt(9));
            case 3:
                return ".";
            case 4:
                return a + "_";
            default:
                return "" + a + DEEDS.charAt(random.nextInt(4));
        }
    }

    private void call(int kind) {
        int a = draw(0, 7);
        int b = draw(0, 7);
        int what = draw(0, 2);
        int bit = draw(0, 1);
        boolean seldom = random.nextInt(4) == 0;
        switch (kind) {
            case 0 -> oneCall(a, draw(0, 3), bit, draw(1, 9), draw(0, 9));
            case 1 -> same("treaty", w -> w.treaty(a, b, !seldom));
            case 2 -> hairCall(draw(0, 99));
            case 3 -> payCall(draw(0, 5), draw(1, 9), random.nextBoolean() ? draw(0, 25) : draw(0, 99));
            case 4 -> seesCall(a, random.nextBoolean() ? draw(0, 30) : draw(0, 99));
            case 5 -> same("camps", w -> w.camps(bit));
            case 6, 7 -> sayCalls();
            case 8 -> wipeCall(seldom);
            case 9 -> same("fault", Women::fault);
            case 10 -> same("judge", w -> w.judge(what));
            case 11 -> behindCall(a, draw(0, 3));
            case 12 -> statesCall(draw(0, 6), bit);
            case 13 -> same("done", Women::done);
            default -> laterCall(kind, what, bit, seldom);
        }
    }

    private void laterCall(int kind, int what, int bit, boolean seldom) {
        int part = draw(0, 1);
        switch (kind) {
            case 14 -> same("late", w -> w.late(bit));
            case 15 -> stampsCall(draw(1, 20), draw(1, 20), draw(1, 20), draw(0, 200), what);
            case 16, 17 -> seenCall(draw(0, 60), random.nextBoolean());
            case 18 -> forgetCall(seldom);
            case 19 -> fitsCall(random.nextBoolean() ? -1 : draw(-1, 112 >> random.nextInt(7)));
            case 20 -> same("ask", w -> w.ask(bit));
            case 21 -> same("lift", w -> w.lift(bit));
            case 22 -> votesCall(draw(0, 20), draw(0, 20), bit, part);
            case 23 -> yearCall(draw(0, 9999), draw(1, 99), what);
            case 24 -> same("image", w -> w.image(bit));
            default -> same("restore", w -> w.restore(bit));
        }
    }

    private void oneCall(int one, int nation, int down, int mesh, int tears) {
        same("one", w -> w.one(one, nation, down, mesh, tears));
    }

    private void hairCall(int v) {
        same("hair", w -> w.hair(v));
    }

    private void payCall(int call, int minutes, int due) {
        same("pay", w -> w.pay(call, minutes, due));
    }

    private void seesCall(int one, int e) {
        same("sees", w -> w.sees(one, e));
    }

    // Several at once, and the rest of an act more often than not, so that most texts have no fault.
    private void sayCalls() {
        int count = planned.isEmpty() ? 1 + random.nextInt(12) : planned.length();
        for (int i = 0; i < count; i++) {
            int sign = sign();
            same("say", w -> w.say(sign));
        }
    }

    private void wipeCall(boolean is) {
        if (is) {
            same("wipe", Women::wipe);
            planned = "";
        }
    }

    private void behindCall(int one, int what) {
        same("behind", w -> w.behind(one, what));
    }

    private void statesCall(int what, int bit) {
        same("states", w -> w.states(what));
        same("annexed", w -> w.annexed(bit));
    }

    private void stampsCall(int a, int b, int c, int n, int what) {
        same("stamps", w -> w.stamps(a, b, c, n, what));
    }

    private void seenCall(int evening, boolean down) {
        same("seen", w -> w.seen(evening, down));
    }

    private void forgetCall(boolean is) {
        if (is) {
            same("forget", Women::forget);
        }
    }

    private void fitsCall(int i) {
        same("fits", w -> w.fits(i));
    }

    private void votesCall(int a, int b, int what, int part) {
        same("votes", w -> w.votes(a, b, what, part));
    }

    private void yearCall(int seed, int m, int what) {
        same("year", w -> w.year(seed, m, what));
    }

    private static void allStamps() {
        for (int a = 1; a <= 20; a++) {
            for (int b = 1; b <= 20; b++) {
                TwinTest run = new TwinTest(1);
                for (int c = 1; c <= 20; c++) {
                    run.stampsCall(a, b, c, (37 * a + 11 * b + c) % 201, 0);
                    run.stampsCall(a, b, c, (17 * a + 31 * b + c) % 201, 1);
                    run.stampsCall(a, b, c, 0, 2);
                }
            }
        }
    }

    private static void allVotes() {
        for (int a = 0; a <= 20; a++) {
            TwinTest run = new TwinTest(2);
            for (int k = 0; k < 21 * 4; k++) {
                run.votesCall(a, k / 4, k / 2 % 2, k % 2);
            }
        }
    }

    private static void allLifts() {
        for (int veils = 0; veils < 256; veils++) {
            TwinTest run = new TwinTest(3);
            for (int one = 0; one < 8; one++) {
                run.oneCall(one, 0, veils >> one & 1, 3, 0);
            }
            run.same("lift(0)", w -> w.lift(0));
            run.same("lift(1)", w -> w.lift(1));
        }
    }

    private static void allYears() {
        for (int seed = 0; seed <= 9999; seed += 100) {
            TwinTest run = new TwinTest(seed);
            run.dressAll();
            for (int i = 0; i < 100; i++) {
                run.yearCall(seed + i, 1 + (seed / 100 + i) % 99, i % 3);
            }
        }
    }
}
