/** What an object holds, in parts that calls change apart from one another. */
enum Held {
    ONES, TREATIES, HAIR, DAY, CALLS, PAD, SIGHTS, FIRST_IMAGE, SECOND_IMAGE;

    static Held image(int k) {
        return k == 0 ? FIRST_IMAGE : SECOND_IMAGE;
    }
}
