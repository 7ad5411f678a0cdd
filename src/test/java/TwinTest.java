import java.util.EnumSet;
import java.util.List;

/** Runs of 512 drawn calls, each answered by the class as by its twin; the seeds are fixed, so each run is the same. */
public final class TwinTest {
    private static final int RUNS = 240, LAST_CALLS = 60;
    private static final List<Kind> ALL = List.copyOf(EnumSet.allOf(Kind.class));
    private static final List<Kind> DAYS = List.of(Kind.SAY, Kind.SAY, Kind.WIPE, Kind.FAULT, Kind.JUDGE, Kind.BEHIND,
            Kind.STATES, Kind.ANNEXED, Kind.DONE);

    private final String run;
    private final Drawn drawn;
    private final Counted real = new Counted();
    private final Twin twin = new Twin();

    private TwinTest(String run, long seed) {
        this.run = run;
        drawn = new Drawn(seed);
    }

    public static void main(String[] args) {
        Checks.check("drawn calls of all kinds", () -> runs("all", ALL, 0));
        Checks.check("drawn calls of acts and days", () -> runs("days", DAYS, RUNS));
        Checks.check("drawn texts, as long as all can be", TwinTest::longTexts);
        Checks.check("stamps of all worths", TwinTest::allStamps);
        Checks.check("votes of all numbers", TwinTest::allVotes);
        Checks.check("all lifts", TwinTest::allLifts);
        Checks.check("all seeds of short years", TwinTest::allYears);
        Checks.end();
    }

    private static void runs(String name, List<Kind> kinds, int firstSeed) {
        for (int seed = firstSeed; seed < firstSeed + RUNS; seed++) {
            TwinTest run = new TwinTest(name + " " + seed, seed);
            if (seed % 2 == 1) {
                run.dressAll();
            }
            while (run.real.left() > LAST_CALLS) {
                for (Step step : run.drawn.some(kinds.get(run.drawn.below(kinds.size())))) {
                    run.same(step);
                }
            }
            run.askWhatIsTold();
        }
    }

    private static void longTexts() {
        for (int seed = 0; seed < RUNS; seed++) {
            TwinTest run = new TwinTest("texts " + seed, seed);
            run.dressAll();
            while (run.real.left() > LAST_CALLS) {
                run.sayMore();
            }
            run.askWhatIsTold();
        }
    }

    // A text with an act that can not be tells no more, so it is soon wiped; a long one is done.
    private void sayMore() {
        for (Step step : drawn.some(Kind.SAY)) {
            same(step);
        }
        for (int what = 0; what < 3; what++) {
            same(Kind.JUDGE, what);
        }
        same(Kind.ANNEXED, 0);
        same(Kind.ANNEXED, 1);
        for (Kind kind : List.of(Kind.BEHIND, Kind.BEHIND, Kind.STATES)) {
            same(drawn.one(kind));
        }
        if (twin.judge(2) < 0 && drawn.below(2) == 0) {
            same(drawn.one(Kind.WIPE));
        } else if (twin.told(0) > 20 && drawn.below(4) == 0) {
            same(Kind.DONE);
        }
    }

    /** Asks both, as long as the document promises an answer. */
    private void same(Step step) {
        if (real.left() > 0) {
            String call = run + ", " + real.left() + " left: " + step;
            Checks.due(call, step.on(twin), step.on(real));
        }
    }

    private void same(Kind kind, int... numbers) {
        same(new Step(kind, numbers));
    }

    private void dressAll() {
        for (int one = 0; one < 8; one++) {
            same(Kind.ONE, one, drawn.below(4), drawn.below(2), 1 + drawn.below(9), drawn.below(10));
        }
    }

    private void askWhatIsTold() {
        for (int what = 0; what < 182; what++) {
            if (what < 40 && what % 10 < 9 || what >= 98 && what % 10 <= 2) {
                same(Kind.TOLD, what);
            }
        }
    }

    private static void allStamps() {
        for (int a = 1; a <= 20; a++) {
            for (int b = 1; b <= 20; b++) {
                TwinTest run = new TwinTest("stamps", 1);
                for (int c = 1; c <= 20; c++) {
                    run.same(Kind.STAMPS, a, b, c, (37 * a + 11 * b + c) % 201, 0);
                    run.same(Kind.STAMPS, a, b, c, (17 * a + 31 * b + c) % 201, 1);
                    run.same(Kind.STAMPS, a, b, c, 0, 2);
                }
            }
        }
    }

    private static void allVotes() {
        for (int a = 0; a <= 20; a++) {
            TwinTest run = new TwinTest("votes", 2);
            for (int k = 0; k < 21 * 4; k++) {
                run.same(Kind.VOTES, a, k / 4, k / 2 % 2, k % 2);
            }
        }
    }

    private static void allLifts() {
        for (int veils = 0; veils < 256; veils++) {
            TwinTest run = new TwinTest("veils " + veils, 3);
            for (int one = 0; one < 8; one++) {
                run.same(Kind.ONE, one, 0, veils >> one & 1, 3, 0);
            }
            run.same(Kind.LIFT, 0);
            run.same(Kind.LIFT, 1);
        }
    }

    private static void allYears() {
        for (int seed = 0; seed <= 9999; seed += 100) {
            TwinTest run = new TwinTest("years", seed);
            run.dressAll();
            for (int i = 0; i < 100; i++) {
                run.same(Kind.YEAR, seed + i, 1 + (seed / 100 + i) % 99, i % 3);
            }
        }
    }
}
