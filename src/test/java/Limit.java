/** What a number of a call may be, and what the call is refused with where it is not. */
record Limit(int least, int most, int refusal) {
    static final Limit ONE = new Limit(0, 7, VeilNations.UNKNOWN);
    static final Limit CALL = new Limit(0, 5, VeilNations.UNKNOWN);
    /** A boolean, put as a number. */
    static final Limit YES_OR_NO = new Limit(0, 1, 0);

    static Limit to(int most) {
        return from(0, most);
    }

    static Limit from(int least, int most) {
        return new Limit(least, most, VeilNations.OUTSIDE);
    }
}
