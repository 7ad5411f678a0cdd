import java.util.EnumSet;
import java.util.Set;

/** The calls of the document: in which of its parts each stands, what its numbers may be, and what it may change. */
enum Kind {
    ONE(1, (w, p) -> w.one(p[0], p[1], p[2], p[3], p[4]),
            Limit.ONE, Limit.to(3), Limit.to(1), Limit.from(1, 9), Limit.to(9)),
    TREATY(1, (w, p) -> w.treaty(p[0], p[1], p[2] == 1), Limit.ONE, Limit.ONE, Limit.YES_OR_NO),
    HAIR(1, (w, p) -> w.hair(p[0]), Limit.to(99)),
    PAY(1, (w, p) -> w.pay(p[0], p[1], p[2]), Limit.CALL, Limit.from(1, 9), Limit.to(99)),
    SAY(1, (w, p) -> w.say(p[0]), Limit.from(33, 126)),
    WIPE(1, (w, p) -> w.wipe()),
    FAULT(1, (w, p) -> w.fault()),
    JUDGE(2, (w, p) -> w.judge(p[0]), Limit.to(2)),
    BEHIND(2, (w, p) -> w.behind(p[0], p[1]), Limit.ONE, Limit.to(3)),
    STATES(2, (w, p) -> w.states(p[0]), Limit.to(6)),
    ANNEXED(2, (w, p) -> w.annexed(p[0]), Limit.to(1)),
    DONE(2, (w, p) -> w.done()),
    SEES(2, (w, p) -> w.sees(p[0], p[1]), Limit.ONE, Limit.to(99)),
    CAMPS(3, (w, p) -> w.camps(p[0]), Limit.to(1)),
    LATE(3, (w, p) -> w.late(p[0]), Limit.to(1)),
    STAMPS(3, (w, p) -> w.stamps(p[0], p[1], p[2], p[3], p[4]),
            Limit.from(1, 20), Limit.from(1, 20), Limit.from(1, 20), Limit.to(200), Limit.to(2)),
    SEEN(4, (w, p) -> w.seen(p[0], p[1] == 1), Limit.to(60), Limit.YES_OR_NO),
    FORGET(4, (w, p) -> w.forget()),
    FITS(4, (w, p) -> w.fits(p[0]), new Limit(-1, 111, VeilNations.NONE)),
    ASK(4, (w, p) -> w.ask(p[0]), Limit.to(1)),
    LIFT(4, (w, p) -> w.lift(p[0]), Limit.to(1)),
    VOTES(4, (w, p) -> w.votes(p[0], p[1], p[2], p[3]), Limit.to(20), Limit.to(20), Limit.to(1), Limit.to(1)),
    YEAR(4, (w, p) -> w.year(p[0], p[1], p[2]), Limit.to(9999), Limit.from(1, 99), Limit.to(2)),
    IMAGE(4, (w, p) -> w.image(p[0]), Limit.to(1)),
    RESTORE(4, (w, p) -> w.restore(p[0]), Limit.to(1)),
    TOLD(4, (w, p) -> w.told(p[0]), Limit.to(172));

    private interface Call {
        long of(Women women, int[] numbers);
    }

    final int part;
    final Limit[] limits;
    private final Call call;

    Kind(int part, Call call, Limit... limits) {
        this.part = part;
        this.call = call;
        this.limits = limits;
    }

    long of(Women women, int... numbers) {
        return call.of(women, numbers);
    }

    /** What a call with such numbers may change, if it is not refused. */
    Set<Held> changes(int... numbers) {
        switch (this) {
            case ONE:
                return EnumSet.of(Held.ONES);
            case TREATY:
                return EnumSet.of(Held.TREATIES);
            case HAIR:
                return EnumSet.of(Held.HAIR);
            case PAY:
                return EnumSet.of(Held.CALLS);
            case SAY:
            case WIPE:
                return EnumSet.of(Held.PAD);
            case DONE:
                return EnumSet.of(Held.PAD, Held.ONES, Held.TREATIES, Held.HAIR, Held.DAY);
            case SEEN:
            case FORGET:
                return EnumSet.of(Held.SIGHTS);
            case IMAGE:
                return EnumSet.of(Held.image(numbers[0]));
            case RESTORE:
                return EnumSet.complementOf(EnumSet.of(Held.PAD, Held.FIRST_IMAGE, Held.SECOND_IMAGE));
            default:
                return EnumSet.noneOf(Held.class);
        }
    }

    boolean onlyTells() {
        return changes(0).isEmpty();
    }

    String call() {
        return name().toLowerCase();
    }
}
