import java.util.ArrayList;
import java.util.EnumMap;
import java.util.List;
import java.util.Map;
import java.util.Set;
import java.util.TreeMap;

/**
 * Runs of up to 512 calls on one object, in which calls of all four parts stand between one another: a call changes
 * what its promise names and nothing else, a call that only tells changes nothing, an image is as it was kept. What is
 * due is told here from what the object itself answered before, not by the twin.
 */
public final class RunsTest extends ByHand {
    private static final int RUNS = 100, MOST_CALLS = 512;
    private static final Map<Integer, List<Kind>> PARTS = new TreeMap<>();

    static {
        for (Kind kind : Kind.values()) {
            PARTS.computeIfAbsent(kind.part, part -> new ArrayList<>()).add(kind);
        }
    }

    public static void main(String[] args) {
        Checks.check("runs: one whole life by hand", RunsTest::lifeByHand);
        Checks.check("runs: every call as the 512th", RunsTest::lastCalls);
        Checks.check("runs: 512 times the same call", RunsTest::sameCalls);
        Checks.check("runs: a text is judged by what is now", RunsTest::judgedByNow);
        Checks.check("runs: calls that only tell change no answer", RunsTest::tellingChangesNoAnswer);
        Checks.check("runs: calls that only tell change nothing", RunsTest::tellingChangesNothing);
        Checks.check("runs: what is told does not hang on what was told", RunsTest::toldAlone);
        Checks.check("runs: a call changes what its promise names", RunsTest::changesWhatItNames);
        Checks.check("runs: images, whatever was called since", RunsTest::imagesAsKept);
        Checks.end();
    }

    /** Every second call is one of the first part, signs for the most; behind each comes one of another part. */
    private static List<Step> draw(long seed, int length) {
        Drawn drawn = new Drawn(seed);
        List<Step> run = new ArrayList<>();
        while (run.size() < length) {
            boolean isSign = drawn.below(2) == 0;
            List<Kind> first = PARTS.get(1);
            List<Kind> other = PARTS.get(2 + drawn.below(3));
            Kind kind = run.size() % 2 == 1 ? other.get(drawn.below(other.size()))
                    : isSign ? Kind.SAY : first.get(drawn.below(first.size()));
            boolean empties = kind == Kind.WIPE || kind == Kind.FORGET;
            if (!empties || drawn.below(4) == 0) {
                run.add(drawn.one(kind));
            }
        }
        return run;
    }

    private static Counted asked(List<Step> steps) {
        Counted x = new Counted();
        for (Step step : steps) {
            step.on(x);
        }
        return x;
    }

    private static List<Step> with(List<Step> steps, Step last) {
        List<Step> more = new ArrayList<>(steps);
        more.add(last);
        return more;
    }

    private static void same(String when, String difference) {
        if (difference != null) {
            Checks.wrong(when + ": " + difference);
        }
    }

    private static void tellingChangesNoAnswer() {
        for (int seed = 0; seed < 10 * RUNS; seed++) {
            Counted all = new Counted();
            Counted changed = new Counted();
            for (Step step : draw(seed, MOST_CALLS)) {
                long answer = step.on(all);
                if (!step.kind().onlyTells()) {
                    due("run " + seed + ", less what only tells: " + step, answer, step.on(changed));
                }
            }
        }
    }

    private static void tellingChangesNothing() {
        for (int seed = 0; seed < 10 * RUNS; seed++) {
            List<Step> run = draw(seed, MOST_CALLS - Snapshot.CALLS);
            List<Step> changes = run.stream().filter(step -> !step.kind().onlyTells()).toList();
            same("run " + seed, Snapshot.of(asked(run)).differenceTo(Snapshot.of(asked(changes))));
        }
    }

    private static void toldAlone() {
        for (int seed = 0; seed < RUNS; seed++) {
            Counted all = new Counted();
            List<Step> changes = new ArrayList<>();
            for (Step step : draw(seed, MOST_CALLS)) {
                long answer = step.on(all);
                if (step.kind().onlyTells()) {
                    due("run " + seed + ", alone: " + step, answer, step.on(asked(changes)));
                } else {
                    changes.add(step);
                }
            }
        }
    }

    private static void changesWhatItNames() {
        Map<Kind, Integer> answered = new EnumMap<>(Kind.class);
        for (int seed = 0; seed < RUNS; seed++) {
            List<Step> past = new ArrayList<>();
            Snapshot before = Snapshot.of(new Counted());
            for (Step step : draw(seed, MOST_CALLS - Snapshot.CALLS)) {
                if (step.kind().onlyTells()) {
                    continue;
                }
                Counted x = asked(past);
                long answer = step.on(x);
                Snapshot after = Snapshot.of(x);
                String when = "run " + seed + ", behind " + step;
                if (step.isRefusedFor(answer)) {
                    same(when + ", refused", after.differenceTo(before));
                } else {
                    same(when, after.differenceBeside(step.kind().changes(step.numbers()), before));
                    new Change(when, before, after).named(step, answer);
                    answered.merge(step.kind(), 1, Integer::sum);
                }
                past.add(step);
                before = after;
            }
        }
        for (Kind kind : Kind.values()) {
            if (!kind.onlyTells() && answered.getOrDefault(kind, 0) < 5) {
                Checks.wrong("too seldom answered: " + kind.call());
            }
        }
    }

    private static void imagesAsKept() {
        for (int seed = 0; seed < 4 * RUNS; seed++) {
            int k = seed % 2;
            List<Step> run = new ArrayList<>(draw(seed, 20 + seed % 40));
            run.add(new Step(Kind.IMAGE, k));
            Snapshot kept = Snapshot.of(asked(run));
            for (Step step : draw(seed + 1000003L, MOST_CALLS - Snapshot.CALLS - run.size())) {
                if (step.kind() != Kind.IMAGE || step.numbers()[0] != k) {
                    run.add(step);
                }
            }
            Snapshot later = Snapshot.of(asked(run));
            for (String call : kept.calls()) {
                String now = Snapshot.ofImage(call, k);
                if (kept.has(now)) {
                    due("run " + seed + ", " + now, kept.answer(call.equals("restored") ? now : call), later.answer(now));
                }
            }
        }
    }

    /** What is told before and behind a call that was answered. */
    private record Change(String when, Snapshot before, Snapshot after) {
        /** All that the promise of the call names, and that else of what it may change all is as it was. */
        void named(Step step, long answer) {
            int[] p = step.numbers();
            switch (step.kind()) {
                case ONE -> one(p, answer);
                case TREATY -> treaty(p[0], p[1], p[2] == 1, answer);
                case HAIR -> was(2, p[0], answer);
                case PAY -> pay(p, answer);
                case SAY -> more(0, answer);
                case WIPE -> was(0, 0, answer);
                case SEEN -> more(4, answer);
                case FORGET -> was(4, 0, answer);
                case DONE -> done();
                case IMAGE -> kept(p[0], answer);
                case RESTORE -> restored(p[0], answer);
                default -> Checks.wrong(when + " nothing is named");
            }
        }

        private long before(int what) {
            return before.answer("told(" + what + ")");
        }

        private void isNow(int what, long want) {
            due(when + " told(" + what + ")", want, after.answer("told(" + what + ")"));
        }

        private void was(int what, int now, long answer) {
            due(when, before(what), answer);
            isNow(what, now);
        }

        private void more(int what, long answer) {
            due(when, before(what) + 1, answer);
            isNow(what, answer);
        }

        private static long withBit(long bits, int i, boolean is) {
            return is ? bits | 1L << i : bits & ~(1L << i);
        }

        private void one(int[] p, long answer) {
            due(when, before(100 + 10 * p[0]), answer);
            isNow(1, withBit(before(1), p[0], p[2] == 1));
            for (int one = 0; one < 8; one++) {
                int at = 100 + 10 * one;
                boolean hers = one == p[0];
                isNow(at, hers ? p[1] : before(at));
                isNow(at + 1, hers ? p[3] : before(at + 1));
                isNow(at + 2, hers ? p[4] : before(at + 2));
            }
        }

        private void treaty(int a, int b, boolean is, long answer) {
            int twice = 0;
            for (int one = 0; one < 8; one++) {
                int at = 10 + one;
                long want = one == a ? withBit(before(at), b, is) : one == b ? withBit(before(at), a, is) : before(at);
                isNow(at, want);
                twice += Long.bitCount(want);
            }
            due(when, twice / 2, answer);
        }

        private void pay(int[] p, long answer) {
            due(when, 100 * before(20 + p[0]) + before(30 + p[0]), answer);
            for (int call = 0; call < 6; call++) {
                isNow(20 + call, call == p[0] ? p[1] : before(20 + call));
                isNow(30 + call, call == p[0] ? p[2] : before(30 + call));
            }
        }

        /** It is so then: what was told to be behind the text is now. */
        private void done() {
            isNow(0, 0);
            due(when + " fault()", NONE, after.answer("fault()"));
            long veils = 0;
            for (int one = 0; one < 8; one++) {
                int at = 100 + 10 * one;
                isNow(at, before.answer("behind(" + one + ", 0)"));
                isNow(at + 1, before(at + 1));
                isNow(at + 2, before.answer("behind(" + one + ", 2)"));
                veils |= before.answer("behind(" + one + ", 1)") << one;
            }
            isNow(1, veils);
            isNow(2, before.answer("states(4)"));
            isNow(3, before.answer("states(5)"));
            for (int what = 0; what < 7; what++) {
                String call = "states(" + what + ")";
                due(when + " " + call, before.answer(call), after.answer(call));
            }
        }

        private void kept(int k, long answer) {
            due(when, 1, answer);
            due(when + " it can be restored", 1, after.answer(Snapshot.ofImage("restored", k)));
            moved(after, after, k);
        }

        private void restored(int k, long answer) {
            due(when, 1, answer);
            moved(before, after, k);
        }

        /** What is told of the image, and of what is now, is the same. */
        private void moved(Snapshot image, Snapshot now, int k) {
            Set<String> calls = image.calls();
            for (String call : calls) {
                String kept = Snapshot.ofImage(call, k);
                if (image.has(kept) && !call.equals("restored")) {
                    due(when + " " + call, image.answer(kept), now.answer(call));
                }
            }
        }
    }

    /** Sixteen rounds of 32 calls: each of the eight is dressed twice. */
    private static void lifeByHand() {
        Counted x = new Counted();
        for (int round = 0; round < 16; round++) {
            int w = round % 8;
            boolean isFirst = round < 8;
            int upTo = (2 << w) - 1;
            int tears = round % 3;
            due("dressed", isFirst ? 0 : 1, x.one(w, isFirst ? 1 : 2, 1, 9, tears));
            due("veils", isFirst ? upTo : 255, x.told(1));
            due("seen", w + 1, x.seen(2 * w, true));
            due("to pay", round < 6 ? 100 : 100 * (1 + (round - 6) % 9) + 105 - round,
                    x.pay(round % 6, 1 + round % 9, 99 - round));
            due("every other evening", 210, x.fits(0));
            due("a letter", 1, x.say('A' + w));
            due("two nations apart", w < 7 ? upTo : 1, x.camps(1));
            due("a tear", 2, x.say('/'));
            due("nim of 1 to so many", isFirst && w % 4 == 2 ? 0 : 1, x.lift(0));
            due("it can be", NONE, x.judge(0));
            due("due at 0", Math.max(5 - round, 0), x.late(0));
            due("a tear more", tears + 1, x.behind(w, 2));
            due("ways of ones", (round + 1) * (round + 2) / 2, x.stamps(1, 1, 1, round, 1));
            due("kept", 1, x.image(0));
            due("done", 1, x.done());
            due("one vote ahead", 2 * round + 1, x.votes(round + 1, round, 0, 1));
            due("torn", tears + 1, x.told(102 + 10 * w));
            due("hair", 9, x.hair(50));
            due("nothing on the pad", 0, x.wipe());
            due("a treaty", 1, x.treaty(w, (w + 1) % 8, true));
            due("with whom", 1 << (w + 1) % 8, x.told(10 + w));
            due("forgotten", w + 1, x.forget());
            due("seen anew", 1, x.seen(1, true));
            due("restored", 1, x.restore(0));
            due("hair", 9, x.told(2));
            due("no treaty", 0, x.told(10 + w));
            due("sights", w + 1, x.told(4));
            due("those not veiled yet", isFirst ? 255 - upTo : 0, x.sees(w, 9 - tears));
            due("no fault", NONE, x.fault());
            due("of nation 1", isFirst ? w + 1 : 7 - w, x.states(1));
            due("none annexed", NONE, x.annexed(0));
            due("tears", w == 7 ? 8 : tears, w == 7 ? x.forget() : x.told(102 + 10 * w));
        }
        due("calls left", 0, x.left());
    }

    private static void lastCalls() {
        int[] numbers = {1, 1, 1, 1, 1};
        List<Kind> telling = List.of(Kind.values()).stream().filter(Kind::onlyTells).toList();
        for (Kind kind : Kind.values()) {
            Counted x = new Counted();
            for (int i = 0; x.left() > 1; i++) {
                telling.get(i % telling.size()).of(x, numbers);
            }
            numbers[0] = kind == Kind.SAY ? '.' : 1;
            numbers[1] = kind == Kind.TREATY ? 2 : 1;
            due("the 512th: " + kind.call(), kind.of(new Counted(), numbers), kind.of(x, numbers));
        }
    }

    /** Behind the first calls, that fill what can be full, each answers as the one before. */
    private static void sameCalls() {
        int[] numbers = {1, 2, 1, 1, 1};
        for (Kind kind : Kind.values()) {
            numbers[0] = kind == Kind.SAY ? '.' : kind == Kind.STAMPS ? 3 : 1;
            Counted x = new Counted();
            int count = kind == Kind.SAY ? 60 : kind == Kind.SEEN ? 8 : 0;
            for (int i = 1; i <= count; i++) {
                due(kind.call() + ", time " + i, i, kind.of(x, numbers));
            }
            long first = kind.of(x, numbers);
            long second = kind.of(x, numbers);
            if (kind.onlyTells() || count > 0) {
                due(kind.call() + " twice", first, second);
            }
            while (x.left() > 0) {
                due(kind.call() + ", " + x.left() + " left", second, kind.of(x, numbers));
            }
        }
    }

    private static void judgedByNow() {
        Counted x = new Counted();
        write(x, "BxA");
        due("A's veil is up", 1, x.judge(1));
        x.one(0, 1, 1, 3, 0);
        due("it is down", 1, x.judge(2));
        due("by B of nation 0", 0, x.behind(0, 0));
        x.one(1, 1, 0, 3, 0);
        due("both of nation 1", 0, x.judge(2));
        x.image(0);
        x.one(0, 1, 0, 3, 0);
        due("A's veil is up again", STATE, x.annexed(0));
        x.restore(0);
        due("restored", NONE, x.annexed(0));
        write(x, "C%D~E");
        due("no tear", 0, x.judge(0));
        x.one(2, 0, 0, 3, 1);
        due("a tear", NONE, x.judge(0));
        x.hair(0);
        due("no hair", 5, x.judge(1));
        x.hair(3);
        due("hair", 2, x.states(4));
        x.treaty(3, 4, true);
        due("they keep one", 4, x.judge(1));
        x.treaty(4, 3, false);
        due("no more", 1, x.states(6));
        x.one(3, 2, 1, 3, 0);
        due("of two nations", 3, x.judge(1));
        x.one(3, 0, 1, 3, 0);
        due("of one", 2, x.done());
        write(x, "C%D~E");
        due("the same text once more", 0, x.judge(0));
        due("the tear is mended", 5, x.judge(1));
        x.restore(0);
        due("no tear was kept", 5, x.judge(1));
        x.one(2, 0, 0, 3, 9);
        due("no treaty was kept", NONE, x.judge(0));
        due("acts", 2, x.done());
        due("tears", 8, x.told(122));
        due("treaties", 16, x.told(13));
        due("hair", 8, x.told(2));
    }
}
