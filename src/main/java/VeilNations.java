/** Women in a ring, their veils, and what follows from these; ../shared/DOC.md tells what each call answers. */
public final class VeilNations {
    public static final int UNKNOWN = -1, OUTSIDE = -2, STATE = -3, FULL = -4, NO = -5, NONE = -6;
    public static final long GONE = -1000000000000000000L;

    private static final int ONES = 8, ALL_ONES = 255, NATIONS = 4, LEAST_MESH = 1, MOST_MESH = 9;
    private static final int MOST_TEARS = 9, MOST_HAIR = 99, LAST_DAY = 99, MOST_EYES = 99;
    private static final int CALLS = 6, MOST_MINUTES = 9, LAST_DUE = 99;
    private static final int MOST_SIGNS = 60, FIRST_SIGN = 33, LAST_SIGN = 126;
    private static final int MOST_SIGHTS = 8, LAST_EVENING = 60, RHYTHMS = 112;
    private static final int MOST_WORTH = 20, MOST_SUM = 200, MOST_VOTES = 20;
    private static final int LAST_SEED = 9999, MOST_DRAWS = 99;

    // Numbered as a year draws them; a year never mends, so that comes last.
    private static final int LET_DOWN = 1, RAISE = 2, ANNEX = 3, KISS = 4, TEAR = 5, GUST = 6, DAY = 7, MEND = 8;

    private static final int MAY_BE = 0;

    private final Whole whole;
    private final Whole firstImage;
    private final Whole secondImage;
    private final Pad pad;
    private final Course course;
    private final World imagined;
    private final Rhythms rhythms;
    private final Stamps book;

    public VeilNations() {
        whole = new Whole();
        firstImage = new Whole();
        secondImage = new Whole();
        pad = new Pad();
        course = new Course();
        imagined = new World();
        rhythms = new Rhythms();
        book = new Stamps();
    }

    // ---- 1 women, treaties, calls

    public int one(int one, int nation, int down, int mesh, int tears) {
        if (!isOne(one)) {
            return UNKNOWN;
        }
        if (!within(nation, 0, NATIONS - 1) || !within(down, 0, 1)
                || !within(mesh, LEAST_MESH, MOST_MESH) || !within(tears, 0, MOST_TEARS)) {
            return OUTSIDE;
        }
        int was = whole.world.nationOf(one);
        whole.world.dress(one, nation, down, mesh, tears);
        return was;
    }

    public int treaty(int one, int other, boolean is) {
        if (!isOne(one) || !isOne(other) || one == other) {
            return UNKNOWN;
        }
        whole.world.bind(one, other, is);
        return whole.world.treaties();
    }

    public int hair(int v) {
        if (!within(v, 0, MOST_HAIR)) {
            return OUTSIDE;
        }
        int was = whole.world.hair;
        whole.world.hair = v;
        return was;
    }

    public int pay(int call, int minutes, int due) {
        if (!within(call, 0, CALLS - 1)) {
            return UNKNOWN;
        }
        if (!within(minutes, 1, MOST_MINUTES) || !within(due, 0, LAST_DUE)) {
            return OUTSIDE;
        }
        int was = 100 * whole.calls.minutesOf(call) + whole.calls.dueOf(call);
        whole.calls.put(call, minutes, due);
        return was;
    }

    public int say(int sign) {
        if (!within(sign, FIRST_SIGN, LAST_SIGN)) {
            return OUTSIDE;
        }
        return pad.write(sign) ? pad.length : FULL;
    }

    public int wipe() {
        int were = pad.length;
        pad.clear();
        return were;
    }

    public int fault() {
        return pad.read();
    }

    // ---- 2 days

    public int judge(int what) {
        if (!within(what, 0, 2)) {
            return OUTSIDE;
        }
        int refusal = follow(what == 2);
        if (refusal != MAY_BE) {
            return refusal;
        }
        if (what == 0) {
            return course.stoppedAt;
        }
        return what == 1 ? course.why : course.times;
    }

    public int behind(int one, int what) {
        if (!isOne(one)) {
            return UNKNOWN;
        }
        if (!within(what, 0, 3)) {
            return OUTSIDE;
        }
        int refusal = follow(true);
        if (refusal != MAY_BE) {
            return refusal;
        }
        switch (what) {
            case 0:
                return course.end.nationOf(one);
            case 1:
                return course.end.isDown(one) ? 1 : 0;
            case 2:
                return course.end.tearsOf(one);
            default:
                return course.end.thickOf(one);
        }
    }

    public int states(int what) {
        if (!within(what, 0, 6)) {
            return OUTSIDE;
        }
        int refusal = follow(true);
        if (refusal != MAY_BE) {
            return refusal;
        }
        switch (what) {
            case 4:
                return course.end.hair;
            case 5:
                return course.end.day;
            case 6:
                return course.end.treaties();
            default:
                return course.end.peopleOf(what);
        }
    }

    public int annexed(int what) {
        if (!within(what, 0, 1)) {
            return OUTSIDE;
        }
        int refusal = follow(true);
        if (refusal != MAY_BE) {
            return refusal;
        }
        return what == 0 ? course.firstAct : course.firstOne;
    }

    public int done() {
        int refusal = follow(true);
        if (refusal != MAY_BE) {
            return refusal;
        }
        int acts = pad.acts;
        whole.world.copy(course.end);
        pad.clear();
        return acts;
    }

    public int sees(int one, int e) {
        if (!isOne(one)) {
            return UNKNOWN;
        }
        if (!within(e, 0, MOST_EYES)) {
            return OUTSIDE;
        }
        return whole.world.seenRound(one, 1, e) | whole.world.seenRound(one, ONES - 1, e);
    }

    // ---- 3 camps, calls, stamps

    public int camps(int what) {
        if (!within(what, 0, 1)) {
            return OUTSIDE;
        }
        int camp = whole.world.calmestCamp();
        return what == 0 ? whole.world.quarrels(camp) : camp;
    }

    public int late(int what) {
        if (!within(what, 0, 1)) {
            return OUTSIDE;
        }
        int inTime = whole.calls.mostInTime();
        return what == 0 ? CALLS - Integer.bitCount(inTime) : inTime;
    }

    public int stamps(int a, int b, int c, int n, int what) {
        if (!within(a, 1, MOST_WORTH) || !within(b, 1, MOST_WORTH) || !within(c, 1, MOST_WORTH)
                || !within(n, 0, MOST_SUM) || !within(what, 0, 2)) {
            return OUTSIDE;
        }
        book.open(a, b, c);
        if (what == 0) {
            return book.fewestFor(n);
        }
        return what == 1 ? book.waysFor(n) : book.greatestGap();
    }

    // ---- 4 when it is down, lifting by turns, votes

    public int seen(int evening, boolean down) {
        if (!within(evening, 0, LAST_EVENING)) {
            return OUTSIDE;
        }
        return whole.sights.add(evening, down) ? whole.sights.count : FULL;
    }

    public int forget() {
        int were = whole.sights.count;
        whole.sights.clear();
        return were;
    }

    public int fits(int i) {
        if (i < -1) {
            return NONE;
        }
        rhythms.gather(whole.sights);
        return i == -1 ? rhythms.count : rhythms.at(i);
    }

    public int ask(int what) {
        if (!within(what, 0, 1)) {
            return OUTSIDE;
        }
        rhythms.gather(whole.sights);
        int evening = rhythms.bestEvening();
        return what == 0 || evening == NONE ? evening : rhythms.leftAtMost(evening);
    }

    public int lift(int what) {
        if (!within(what, 0, 1)) {
            return OUTSIDE;
        }
        int move = winningLift(whole.world.veils);
        if (what == 0) {
            return move == NONE ? 0 : 1;
        }
        return move;
    }

    public long votes(int a, int b, int what, int part) {
        if (!within(a, 0, MOST_VOTES) || !within(b, 0, MOST_VOTES) || !within(what, 0, 1) || !within(part, 0, 1)) {
            return GONE + OUTSIDE;
        }
        // Bertrand's ballot: (a - b) of (a + b) orders keep for ahead, (a + 1 - b) of (a + 1) never behind.
        int upper = what == 0 ? a - b : a + 1 - b;
        int lower = what == 0 ? a + b : a + 1;
        return lower == 0 ? 1 : inLowestTerms(Math.max(upper, 0), lower, part);
    }

    public int year(int seed, int m, int what) {
        if (!within(seed, 0, LAST_SEED) || !within(m, 1, MOST_DRAWS) || !within(what, 0, 2)) {
            return OUTSIDE;
        }
        imagined.copy(whole.world);
        int x = seed;
        for (int i = 0; i < m; i++) {
            x = (75 * x + 74) % 65537;
            actAsDrawn(imagined, x);
        }
        if (what == 0) {
            return imagined.peopleOf(0);
        }
        return what == 1 ? Integer.bitCount(imagined.veils) : imagined.treaties();
    }

    public int image(int k) {
        if (!within(k, 0, 1)) {
            return OUTSIDE;
        }
        Whole kept = k == 0 ? firstImage : secondImage;
        kept.copy(whole);
        kept.isKept = true;
        return 1;
    }

    public int restore(int k) {
        if (!within(k, 0, 1)) {
            return OUTSIDE;
        }
        Whole kept = k == 0 ? firstImage : secondImage;
        if (!kept.isKept) {
            return STATE;
        }
        whole.copy(kept);
        return 1;
    }

    public int told(int what) {
        if (within(what, 10, 10 + ONES - 1)) {
            return whole.world.friendsOf(what - 10);
        }
        if (within(what, 20, 20 + CALLS - 1)) {
            return whole.calls.minutesOf(what - 20);
        }
        if (within(what, 30, 30 + CALLS - 1)) {
            return whole.calls.dueOf(what - 30);
        }
        if (within(what, 100, 100 + 10 * ONES - 1)) {
            return toldOfOne((what - 100) / 10, what % 10);
        }
        switch (what) {
            case 0:
                return pad.length;
            case 1:
                return whole.world.veils;
            case 2:
                return whole.world.hair;
            case 3:
                return whole.world.day;
            case 4:
                return whole.sights.count;
            default:
                return OUTSIDE;
        }
    }

    private int toldOfOne(int one, int what) {
        switch (what) {
            case 0:
                return whole.world.nationOf(one);
            case 1:
                return whole.world.meshOf(one);
            case 2:
                return whole.world.tearsOf(one);
            default:
                return OUTSIDE;
        }
    }

    /** Plays the pad's acts into the course: MAY_BE, or the refusal. */
    private int follow(boolean toTheEnd) {
        if (pad.read() != NONE) {
            return NO;
        }
        course.run(whole.world, pad);
        return toTheEnd && course.stoppedAt != NONE ? STATE : MAY_BE;
    }

    private static void actAsDrawn(World world, int x) {
        int who = x % 8;
        int kind = Math.max(x / 8 % 8, LET_DOWN);
        int z = x / 64;
        int other = kind == GUST ? 1 + z % 9 : z % 8;
        if (world.whyNot(kind, who, other) == MAY_BE) {
            world.act(kind, who, other);
        }
    }

    /** A veil down of ONE i is a heap of i + 1 in nim: moving j less than i down or up is leaving a heap of j + 1. */
    private static int winningLift(int veils) {
        int balance = 0;
        for (int i = 0; i < ONES; i++) {
            balance ^= has(veils, i) ? i + 1 : 0;
        }
        for (int i = 0; i < ONES; i++) {
            for (int j = 0; has(veils, i) && j <= i; j++) {
                int left = j == i ? 0 : j + 1;
                if ((balance ^ (i + 1) ^ left) == 0) {
                    return 10 * i + j;
                }
            }
        }
        return NONE;
    }

    private static int inLowestTerms(int upper, int lower, int part) {
        int asked = part == 0 ? upper : lower;
        for (int d = lower; d > 1; d--) {
            if (upper % d == 0 && lower % d == 0) {
                return asked / d;
            }
        }
        return asked;
    }

    private static boolean within(int number, int least, int most) {
        return number >= least && number <= most;
    }

    private static boolean isOne(int one) {
        return one >= 0 && one < ONES;
    }

    private static boolean has(int bits, int i) {
        return (bits >> i & 1) != 0;
    }

    /** All that an image keeps. */
    private static final class Whole {
        final World world;
        final Calls calls;
        final Sights sights;
        boolean isKept;

        Whole() {
            world = new World();
            calls = new Calls();
            sights = new Sights();
        }

        void copy(Whole from) {
            world.copy(from.world);
            calls.copy(from.calls);
            sights.copy(from.sights);
        }
    }

    /** All that acts change: the ones, their treaties, the hair and the day. */
    private static final class World {
        private final int[] nations;
        private final int[] meshes;
        private final int[] tears;
        private final int[] friends;
        private final int[] foes;
        int veils;
        int hair;
        int day;

        World() {
            nations = new int[ONES];
            meshes = new int[ONES];
            tears = new int[ONES];
            friends = new int[ONES];
            foes = new int[ONES];
            for (int i = 0; i < ONES; i++) {
                meshes[i] = 3;
            }
            hair = 9;
        }

        void copy(World from) {
            for (int i = 0; i < ONES; i++) {
                nations[i] = from.nations[i];
                meshes[i] = from.meshes[i];
                tears[i] = from.tears[i];
                friends[i] = from.friends[i];
            }
            veils = from.veils;
            hair = from.hair;
            day = from.day;
        }

        void dress(int one, int nation, int down, int mesh, int torn) {
            if (!isOne(one)) {
                return;
            }
            nations[one] = nation;
            meshes[one] = mesh;
            tears[one] = torn;
            setVeil(one, down == 1);
        }

        void bind(int one, int other, boolean is) {
            if (!isOne(one) || !isOne(other)) {
                return;
            }
            friends[one] = is ? friends[one] | 1 << other : friends[one] & ~(1 << other);
            friends[other] = is ? friends[other] | 1 << one : friends[other] & ~(1 << one);
        }

        int nationOf(int one) {
            return isOne(one) ? nations[one] : UNKNOWN;
        }

        int meshOf(int one) {
            return isOne(one) ? meshes[one] : UNKNOWN;
        }

        int tearsOf(int one) {
            return isOne(one) ? tears[one] : UNKNOWN;
        }

        int friendsOf(int one) {
            return isOne(one) ? friends[one] : UNKNOWN;
        }

        boolean isDown(int one) {
            return has(veils, one);
        }

        int thickOf(int one) {
            return isOne(one) && has(veils, one) ? Math.max(meshes[one] - tears[one], 0) : 0;
        }

        int treaties() {
            int twice = 0;
            for (int i = 0; i < ONES; i++) {
                twice += Integer.bitCount(friends[i]);
            }
            return twice / 2;
        }

        int peopleOf(int nation) {
            int people = 0;
            for (int i = 0; i < ONES; i++) {
                people += nations[i] == nation ? 1 : 0;
            }
            return people;
        }

        /** The least reason for which an act can not be, or MAY_BE. */
        int whyNot(int kind, int who, int other) {
            switch (kind) {
                case LET_DOWN:
                    return isDown(who) ? 1 : MAY_BE;
                case RAISE:
                    return isDown(who) ? MAY_BE : 1;
                case ANNEX:
                    if (!isDown(other)) {
                        return 1;
                    }
                    return who == other ? 2 : MAY_BE;
                case KISS:
                    return whyNotKiss(who, other);
                case TEAR:
                    return tearsOf(who) >= MOST_TEARS ? 5 : MAY_BE;
                case MEND:
                    return tearsOf(who) <= 0 || hair <= 0 ? 5 : MAY_BE;
                case DAY:
                    return day >= LAST_DAY ? 6 : MAY_BE;
                default:
                    return MAY_BE;
            }
        }

        private int whyNotKiss(int who, int other) {
            if (who == other) {
                return 2;
            }
            if (nationOf(who) != nationOf(other) && (isDown(who) || isDown(other))) {
                return 3;
            }
            return has(friendsOf(who), other) ? 4 : MAY_BE;
        }

        /** Does an act that may be (other is a gust's strength, too): whom it annexed, as bits. */
        int act(int kind, int who, int other) {
            switch (kind) {
                case LET_DOWN:
                    setVeil(who, true);
                    return 0;
                case RAISE:
                    setVeil(who, false);
                    return 0;
                case ANNEX:
                    setVeil(other, false);
                    return annex(other, nationOf(who));
                case KISS:
                    bind(who, other, true);
                    return 0;
                case TEAR:
                    addTears(who, 1);
                    return 0;
                case MEND:
                    addTears(who, -1);
                    hair--;
                    return 0;
                case GUST:
                    blow(other);
                    return 0;
                case DAY:
                    return passDay();
                default:
                    return 0;
            }
        }

        private void setVeil(int one, boolean down) {
            veils = down ? veils | 1 << one : veils & ~(1 << one);
        }

        private void addTears(int one, int more) {
            if (isOne(one)) {
                tears[one] += more;
            }
        }

        private void blow(int strength) {
            for (int i = 0; i < ONES; i++) {
                if (thickOf(i) < strength) {
                    setVeil(i, false);
                }
            }
        }

        // One after the other is all at once here: who is annexed has her veil down, so she sways none beside her.
        private int passDay() {
            int taken = 0;
            for (int i = 0; i < ONES; i++) {
                int left = (i + ONES - 1) % ONES;
                int right = (i + 1) % ONES;
                if (isDown(i) && !isDown(left) && !isDown(right) && nations[left] == nations[right]) {
                    taken |= annex(i, nations[left]);
                }
            }
            day++;
            return taken;
        }

        private int annex(int one, int nation) {
            if (!isOne(one) || nations[one] == nation) {
                return 0;
            }
            nations[one] = nation;
            return 1 << one;
        }

        /** Whom a one sees with such eyes, going round the ring by so many at a step. */
        int seenRound(int one, int step, int eyes) {
            int thick = thickOf(one);
            int bits = 0;
            for (int i = 1; i < ONES; i++) {
                int at = (one + i * step) % ONES;
                thick += thickOf(at);
                bits |= thick <= eyes ? 1 << at : 0;
            }
            return bits;
        }

        /** ONE 0's camp by which the quarrels are fewest; it may be all of them, nobody being in the other. */
        int calmestCamp() {
            countFoes();
            int calmest = 1;
            int fewest = quarrels(1);
            for (int camp = 3; camp <= ALL_ONES; camp += 2) {
                int some = quarrels(camp);
                if (some < fewest) {
                    fewest = some;
                    calmest = camp;
                }
            }
            return calmest;
        }

        /** Treaties across and foes within; countFoes() comes first. */
        int quarrels(int camp) {
            int twice = 0;
            for (int i = 0; i < ONES; i++) {
                int own = has(camp, i) ? camp : ALL_ONES & ~camp;
                twice += Integer.bitCount(friends[i] & ~own) + Integer.bitCount(foes[i] & own);
            }
            return twice / 2;
        }

        private void countFoes() {
            for (int i = 0; i < ONES; i++) {
                int bits = 0;
                for (int j = 0; j < ONES; j++) {
                    bits |= nations[i] != nations[j] ? 1 << j : 0;
                }
                foes[i] = bits & ~friends[i];
            }
        }
    }

    /** Calls to be paid. */
    private static final class Calls {
        private final int[] minutes;
        private final int[] dues;

        Calls() {
            minutes = new int[CALLS];
            dues = new int[CALLS];
            for (int i = 0; i < CALLS; i++) {
                minutes[i] = 1;
            }
        }

        void copy(Calls from) {
            for (int i = 0; i < CALLS; i++) {
                minutes[i] = from.minutes[i];
                dues[i] = from.dues[i];
            }
        }

        void put(int call, int lasting, int due) {
            if (within(call, 0, CALLS - 1)) {
                minutes[call] = lasting;
                dues[call] = due;
            }
        }

        int minutesOf(int call) {
            return within(call, 0, CALLS - 1) ? minutes[call] : UNKNOWN;
        }

        int dueOf(int call) {
            return within(call, 0, CALLS - 1) ? dues[call] : UNKNOWN;
        }

        /** The least of the largest sets that some order pays in time. */
        int mostInTime() {
            int best = 0;
            for (int set = 1; set < 1 << CALLS; set++) {
                if (Integer.bitCount(set) > Integer.bitCount(best) && canBeInTime(set)) {
                    best = set;
                }
            }
            return best;
        }

        // Paying what is due first loses nothing, so it is enough that all that is due by a minute fits in by then.
        private boolean canBeInTime(int set) {
            for (int last = 0; last < CALLS; last++) {
                if (has(set, last) && minutesDueBy(dues[last], set) > dues[last]) {
                    return false;
                }
            }
            return true;
        }

        private int minutesDueBy(int minute, int set) {
            int sum = 0;
            for (int i = 0; i < CALLS; i++) {
                sum += has(set, i) && dues[i] <= minute ? minutes[i] : 0;
            }
            return sum;
        }
    }

    /** What was seen on evenings. */
    private static final class Sights {
        private final int[] evenings;
        private int downs;
        int count;

        Sights() {
            evenings = new int[MOST_SIGHTS];
        }

        void copy(Sights from) {
            for (int i = 0; i < MOST_SIGHTS; i++) {
                evenings[i] = from.evenings[i];
            }
            downs = from.downs;
            count = from.count;
        }

        boolean add(int evening, boolean down) {
            if (!within(count, 0, MOST_SIGHTS - 1)) {
                return false;
            }
            evenings[count] = evening;
            downs |= down ? 1 << count : 0;
            count++;
            return true;
        }

        void clear() {
            downs = 0;
            count = 0;
        }

        boolean agreeWith(int rhythm) {
            for (int i = 0; i < count && i < MOST_SIGHTS; i++) {
                if (Rhythms.isDown(rhythm, evenings[i]) != has(downs, i)) {
                    return false;
                }
            }
            return true;
        }
    }

    /** The rhythms (100 m + 10 c + f) by which all sights are so. */
    private static final class Rhythms {
        private final int[] fitting;
        int count;

        Rhythms() {
            fitting = new int[RHYTHMS];
        }

        static boolean isDown(int rhythm, int evening) {
            int m = rhythm / 100;
            return m > 0 && (evening + rhythm % 10) % m < rhythm / 10 % 10;
        }

        void gather(Sights sights) {
            count = 0;
            for (int m = 2; m <= 7; m++) {
                for (int c = 1; c < m; c++) {
                    for (int f = 0; f < m; f++) {
                        gatherOne(100 * m + 10 * c + f, sights);
                    }
                }
            }
        }

        private void gatherOne(int rhythm, Sights sights) {
            if (within(count, 0, RHYTHMS - 1) && sights.agreeWith(rhythm)) {
                fitting[count] = rhythm;
                count++;
            }
        }

        int at(int i) {
            return within(i, 0, count - 1) && i < RHYTHMS ? fitting[i] : NONE;
        }

        int bestEvening() {
            int best = NONE;
            int fewest = count;
            for (int evening = 0; evening <= LAST_EVENING && count > 0; evening++) {
                int left = leftAtMost(evening);
                if (best == NONE || left < fewest) {
                    best = evening;
                    fewest = left;
                }
            }
            return best;
        }

        int leftAtMost(int evening) {
            int down = 0;
            for (int i = 0; i < count && i < RHYTHMS; i++) {
                down += isDown(fitting[i], evening) ? 1 : 0;
            }
            return Math.max(down, count - down);
        }
    }

    /** Sums of stamps of three worths; one row serves every question. */
    private static final class Stamps {
        // Three worths up to 20 without a common divisor leave no sum from 19 times 19 on unpaid.
        private static final int SUMS = 401;

        private final int[] worths;
        private final int[] row;

        Stamps() {
            worths = new int[3];
            row = new int[SUMS];
        }

        void open(int a, int b, int c) {
            worths[0] = a;
            worths[1] = b;
            worths[2] = c;
        }

        int fewestFor(int sum) {
            countFewest(sum);
            return within(sum, 0, SUMS - 1) ? row[sum] : NONE;
        }

        private void countFewest(int most) {
            row[0] = 0;
            for (int s = 1; s <= most && s < SUMS; s++) {
                row[s] = NONE;
                for (int worth : worths) {
                    int before = s >= worth && worth > 0 ? row[s - worth] : NONE;
                    if (before != NONE && (row[s] == NONE || before + 1 < row[s])) {
                        row[s] = before + 1;
                    }
                }
            }
        }

        int waysFor(int sum) {
            for (int s = 0; s < SUMS; s++) {
                row[s] = s == 0 ? 1 : 0;
            }
            for (int worth : worths) {
                for (int s = worth; worth > 0 && s <= sum && s < SUMS; s++) {
                    row[s] += row[s - worth];
                }
            }
            return within(sum, 0, SUMS - 1) ? row[sum] : 0;
        }

        int greatestGap() {
            if (haveCommonDivisor()) {
                return NONE;
            }
            countFewest(SUMS - 1);
            for (int s = SUMS - 1; s > 0; s--) {
                if (row[s] == NONE) {
                    return s;
                }
            }
            return NONE;
        }

        private boolean haveCommonDivisor() {
            for (int d = 2; d <= MOST_WORTH; d++) {
                if (worths[0] % d == 0 && worths[1] % d == 0 && worths[2] % d == 0) {
                    return true;
                }
            }
            return false;
        }
    }

    /** The text of days: its signs, and, when it has been read, its acts. */
    private static final class Pad {
        private static final int AN_ACT = 0, A_DEED = 1, ANOTHER = 2, A_STRENGTH = 3, NOTHING = 4;

        private final int[] signs;
        private final int[] kinds;
        private final int[] whos;
        private final int[] others;
        int length;
        int acts;

        Pad() {
            signs = new int[MOST_SIGNS];
            kinds = new int[MOST_SIGNS];
            whos = new int[MOST_SIGNS];
            others = new int[MOST_SIGNS];
        }

        boolean write(int sign) {
            if (!within(length, 0, MOST_SIGNS - 1)) {
                return false;
            }
            signs[length] = sign;
            length++;
            return true;
        }

        void clear() {
            length = 0;
            acts = 0;
        }

        int kindOf(int act) {
            return within(act, 0, MOST_SIGNS - 1) ? kinds[act] : NONE;
        }

        int whoOf(int act) {
            return within(act, 0, MOST_SIGNS - 1) ? whos[act] : NONE;
        }

        int otherOf(int act) {
            return within(act, 0, MOST_SIGNS - 1) ? others[act] : NONE;
        }

        /** Reads the acts anew: the place of the fault, or NONE. */
        int read() {
            acts = 0;
            int awaited = AN_ACT;
            for (int place = 0; place < length && place < MOST_SIGNS; place++) {
                awaited = take(awaited, signs[place]);
                if (awaited == NOTHING) {
                    return place;
                }
            }
            return awaited == AN_ACT ? NONE : length;
        }

        // What is read of an act stands in the rows at once; the act counts when it is whole.
        private int take(int awaited, int sign) {
            if (!within(acts, 0, MOST_SIGNS - 1)) {
                return NOTHING;
            }
            switch (awaited) {
                case AN_ACT:
                    return takeFirst(sign);
                case A_DEED:
                    return takeDeed(sign);
                case ANOTHER:
                    others[acts] = sign - 'A';
                    return within(sign, 'A', 'H') ? close() : NOTHING;
                default:
                    others[acts] = sign - '0';
                    return within(sign, '1', '9') ? close() : NOTHING;
            }
        }

        private int takeFirst(int sign) {
            kinds[acts] = sign == 'g' ? GUST : DAY;
            whos[acts] = within(sign, 'A', 'H') ? sign - 'A' : 0;
            others[acts] = 0;
            if (sign == '.') {
                return close();
            }
            if (sign == 'g') {
                return A_STRENGTH;
            }
            return within(sign, 'A', 'H') ? A_DEED : NOTHING;
        }

        private int takeDeed(int sign) {
            int kind = deedOf(sign);
            if (kind == NONE) {
                return NOTHING;
            }
            kinds[acts] = kind;
            return kind == ANNEX || kind == KISS ? ANOTHER : close();
        }

        private static int deedOf(int sign) {
            switch (sign) {
                case '_':
                    return LET_DOWN;
                case '^':
                    return RAISE;
                case 'x':
                    return ANNEX;
                case '~':
                    return KISS;
                case '/':
                    return TEAR;
                case '%':
                    return MEND;
                default:
                    return NONE;
            }
        }

        private int close() {
            acts++;
            return AN_ACT;
        }
    }

    /** Where the acts of a pad lead. */
    private static final class Course {
        final World end;
        int stoppedAt;
        int why;
        int times;
        int firstAct;
        int firstOne;

        Course() {
            end = new World();
        }

        void run(World from, Pad pad) {
            begin(from);
            for (int act = 0; act < pad.acts && stoppedAt == NONE; act++) {
                int reason = end.whyNot(pad.kindOf(act), pad.whoOf(act), pad.otherOf(act));
                if (reason == MAY_BE) {
                    note(act, end.act(pad.kindOf(act), pad.whoOf(act), pad.otherOf(act)));
                } else {
                    stoppedAt = act;
                    why = reason;
                }
            }
        }

        private void begin(World from) {
            end.copy(from);
            stoppedAt = NONE;
            why = NONE;
            times = 0;
            firstAct = NONE;
            firstOne = NONE;
        }

        private void note(int act, int taken) {
            times += Integer.bitCount(taken);
            if (taken != 0 && firstAct == NONE) {
                firstAct = act;
                firstOne = Integer.numberOfTrailingZeros(taken);
            }
        }
    }
}
