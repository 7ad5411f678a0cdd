import java.util.Random;

/** Runs of 512 drawn calls, each answered by the class as by its twin; the seeds are fixed, so each run is the same. */
public final class TwinTest {
    private static final int RUNS = 200, CALLS = 512;
    private static final String DEEDS = "_^/%";

    private final Random random;
    private final VeilNations real = new VeilNations();
    private final Twin twin = new Twin();
    private String planned = "";

    private TwinTest(long seed) {
        random = new Random(seed);
    }

    public static void main(String[] args) {
        Checks.check("drawn calls of all kinds", () -> runs(0, 26));
        Checks.check("drawn calls of acts and days", () -> runs(6, 14));
        Checks.check("stamps of all worths", TwinTest::allStamps);
        Checks.check("votes of all numbers", TwinTest::allVotes);
        Checks.check("all lifts", TwinTest::allLifts);
        Checks.check("all seeds of short years", TwinTest::allYears);
        Checks.end();
    }

    private static void runs(int firstKind, int endKind) {
        for (int seed = 0; seed < RUNS; seed++) {
            TwinTest run = new TwinTest(1000003L * firstKind + seed);
            for (int call = 0; call < CALLS; call++) {
                run.call(firstKind + run.random.nextInt(endKind - firstKind));
            }
        }
    }

    private int draw(int least, int most) {
        int odd = random.nextInt(60);
        if (odd == 0) {
            return random.nextBoolean() ? least - 1 : most + 1;
        }
        if (odd == 1) {
            int[] far = {Integer.MIN_VALUE, Integer.MAX_VALUE, Integer.MIN_VALUE + 1, -2, -7, 1000};
            return far[random.nextInt(far.length)];
        }
        return least + random.nextInt(most - least + 1);
    }

    private int sign() {
        if (planned.isEmpty()) {
            planned = act();
        }
        int sign = planned.charAt(0);
        planned = planned.substring(1);
        return random.nextInt(80) == 0 ? draw(33, 126) : sign;
    }

    private String act() {
        char a = (char) ('A' + random.nextInt(8));
        char b = (char) ('A' + random.nextInt(8));
        switch (random.nextInt(7)) {
            case 0:
                return "" + a + 'x' + b;
            case 1:
                return "" + a + '~' + b;
            case 2:
                return "g" + (1 + random.nextInt(9));
            case 3:
                return ".";
            case 4:
                return a + "_";
            default:
                return "" + a + DEEDS.charAt(random.nextInt(4));
        }
    }

    private void call(int kind) {
        int a = draw(0, 7);
        int b = draw(0, 7);
        int what = draw(0, 2);
        int bit = draw(0, 1);
        switch (kind) {
            case 0 -> oneCall(a, draw(0, 3), bit, draw(1, 9), draw(0, 9));
            case 1 -> {
                boolean is = random.nextInt(3) > 0;
                due("treaty", twin.treaty(a, b, is), real.treaty(a, b, is));
            }
            case 2 -> {
                int v = draw(0, 99);
                due("hair", twin.hair(v), real.hair(v));
            }
            case 3 -> payCall(draw(0, 5), draw(1, 9), random.nextBoolean() ? draw(0, 25) : draw(0, 99));
            case 4 -> {
                int e = random.nextBoolean() ? draw(0, 30) : draw(0, 99);
                due("sees", twin.sees(a, e), real.sees(a, e));
            }
            case 5 -> due("camps", twin.camps(bit), real.camps(bit));
            case 6, 7 -> sayCalls();
            case 8 -> {
                if (random.nextInt(4) == 0) {
                    due("wipe", twin.wipe(), real.wipe());
                    planned = "";
                }
            }
            case 9 -> due("fault", twin.fault(), real.fault());
            case 10 -> due("judge", twin.judge(what), real.judge(what));
            case 11 -> behindCall(a, draw(0, 3));
            case 12 -> statesCall(draw(0, 6), bit);
            case 13 -> due("done", twin.done(), real.done());
            default -> laterCall(kind, what, bit);
        }
    }

    private void laterCall(int kind, int what, int bit) {
        int small = draw(0, 1);
        switch (kind) {
            case 14 -> due("late", twin.late(bit), real.late(bit));
            case 15 -> stampsCall(draw(1, 20), draw(1, 20), draw(1, 20), draw(0, 200), what);
            case 16, 17 -> {
                int evening = draw(0, 60);
                boolean down = random.nextBoolean();
                due("seen", twin.seen(evening, down), real.seen(evening, down));
            }
            case 18 -> {
                if (random.nextInt(4) == 0) {
                    due("forget", twin.forget(), real.forget());
                }
            }
            case 19 -> {
                int i = random.nextBoolean() ? -1 : draw(-1, 112 >> random.nextInt(7));
                due("fits", twin.fits(i), real.fits(i));
            }
            case 20 -> due("ask", twin.ask(bit), real.ask(bit));
            case 21 -> due("lift", twin.lift(bit), real.lift(bit));
            case 22 -> votesCall(draw(0, 20), draw(0, 20), bit, small);
            case 23 -> yearCall(draw(0, 9999), draw(1, 99), what);
            case 24 -> due("image", twin.image(bit), real.image(bit));
            default -> {
                due("restore", twin.restore(bit), real.restore(bit));
                for (int told = -1; told < 182; told++) {
                    due("told " + told, twin.told(told), real.told(told));
                }
            }
        }
    }

    private void oneCall(int one, int nation, int down, int mesh, int tears) {
        due("one", twin.one(one, nation, down, mesh, tears), real.one(one, nation, down, mesh, tears));
    }

    private void payCall(int call, int minutes, int due) {
        due("pay", twin.pay(call, minutes, due), real.pay(call, minutes, due));
    }

    // Several at once, and the rest of an act more often than not, so that most texts have no fault.
    private void sayCalls() {
        int count = planned.isEmpty() ? 1 + random.nextInt(12) : planned.length();
        for (int i = 0; i < count; i++) {
            int sign = sign();
            due("say", twin.say(sign), real.say(sign));
        }
    }

    private void behindCall(int one, int what) {
        due("behind", twin.behind(one, what), real.behind(one, what));
    }

    private void statesCall(int what, int bit) {
        due("states", twin.states(what), real.states(what));
        due("annexed", twin.annexed(bit), real.annexed(bit));
    }

    private void stampsCall(int a, int b, int c, int n, int what) {
        due("stamps", twin.stamps(a, b, c, n, what), real.stamps(a, b, c, n, what));
    }

    private void votesCall(int a, int b, int what, int part) {
        due("votes", twin.votes(a, b, what, part), real.votes(a, b, what, part));
    }

    private void yearCall(int seed, int m, int what) {
        due("year", twin.year(seed, m, what), real.year(seed, m, what));
    }

    private static void due(String call, long want, long got) {
        Checks.due(call, want, got);
    }

    private static void allStamps() {
        TwinTest run = new TwinTest(1);
        for (int a = 1; a <= 20; a++) {
            for (int b = 1; b <= 20; b++) {
                for (int c = 1; c <= b; c++) {
                    run.stampsCall(a, b, c, (37 * a + 11 * b + c) % 201, 0);
                    run.stampsCall(a, b, c, (17 * a + 31 * b + c) % 201, 1);
                    run.stampsCall(a, b, c, 0, 2);
                }
            }
        }
    }

    private static void allVotes() {
        TwinTest run = new TwinTest(2);
        for (int k = 0; k < 21 * 21 * 4; k++) {
            run.votesCall(k / 84, k / 4 % 21, k / 2 % 2, k % 2);
        }
    }

    private static void allLifts() {
        TwinTest run = new TwinTest(3);
        for (int veils = 0; veils < 256; veils++) {
            for (int one = 0; one < 8; one++) {
                run.oneCall(one, 0, veils >> one & 1, 3, 0);
            }
            due("lift(0)", run.twin.lift(0), run.real.lift(0));
            due("lift(1)", run.twin.lift(1), run.real.lift(1));
        }
    }

    private static void allYears() {
        TwinTest run = new TwinTest(4);
        for (int one = 0; one < 8; one++) {
            run.oneCall(one, one % 3, one / 2 % 2, 1 + one, one % 2);
        }
        for (int seed = 0; seed <= 9999; seed++) {
            run.yearCall(seed, 1 + seed % 99, seed / 99 % 3);
        }
    }
}
