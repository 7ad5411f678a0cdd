import java.util.Arrays;

/** A call with its numbers, which can be made on any object. */
record Step(Kind kind, int... numbers) {
    long on(Women women) {
        return kind.of(women, numbers);
    }

    boolean isRefusedFor(long answer) {
        boolean isFraction = kind == Kind.VOTES;
        return isFraction ? answer < 0 : answer < 0 && answer != VeilNations.NONE;
    }

    @Override
    public String toString() {
        String all = Arrays.toString(numbers);
        return kind.call() + "(" + all.substring(1, all.length() - 1) + ")";
    }
}
