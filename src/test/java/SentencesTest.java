import java.util.ArrayList;
import java.util.List;

/** Sentences of the document, each by all that it can be asked about (or by what other tests by hand leave out of it). */
public final class SentencesTest extends ByHand {
    public static void main(String[] args) {
        Checks.check("THICK: of each mesh and each number of tears", SentencesTest::thick);
        Checks.check("ACTS: of each one by her letter", SentencesTest::letters);
        Checks.check("ACTS: a gust of each strength on each veil", SentencesTest::gusts);
        Checks.check("ACTS: a day between all nations and veils", SentencesTest::days);
        Checks.check("ACTS: lifting, of all nations", SentencesTest::annexing);
        Checks.check("ACTS: kisses, of all nations, veils and treaties", SentencesTest::kisses);
        Checks.check("FAULT: each sign at each place of an act", SentencesTest::faults);
        Checks.check("STAMPS: the greatest, whatever n is", SentencesTest::greatestForAllSums);
        Checks.check("STAMPS: of three kinds of 1, in how many ways", SentencesTest::waysOfOnes);
        Checks.check("SIGHTS: each single one", SentencesTest::singleSights);
        Checks.check("SIGHTS: one that is refused is not kept", SentencesTest::refusedSight);
        Checks.check("FITS: all, rising", SentencesTest::rising);
        Checks.check("ASK: each evening is as good or worse", SentencesTest::bestEvening);
        Checks.check("LIFT: the least of several", SentencesTest::leastLift);
        Checks.check("VOTES: two for, every number against", SentencesTest::votesOfTwo);
        Checks.end();
    }

    private static int other(int one, int further) {
        return (one + further) % 8;
    }

    private static String letter(int one) {
        return String.valueOf((char) ('A' + one));
    }

    private static void thick() {
        for (int mesh = 1; mesh <= 9; mesh++) {
            for (int tears = 0; tears <= 9; tears++) {
                Counted x = new Counted();
                x.one(mesh % 8, 0, 1, mesh, tears);
                x.one((mesh + 1) % 8, 0, 0, mesh, tears);
                String veil = "mesh " + mesh + ", tears " + tears;
                due("down, " + veil, tears > mesh ? 0 : mesh - tears, x.behind(mesh % 8, 3));
                due("not down, " + veil, 0, x.behind((mesh + 1) % 8, 3));
            }
        }
    }

    private static void letters() {
        for (int a = 0; a < 8; a++) {
            for (int further = 1; further < 8; further++) {
                int b = other(a, further);
                Counted x = new Counted();
                x.one(a, 1, 0, 3, 4);
                x.one(b, 2, 0, 3, 4);
                write(x, letter(b) + "_" + letter(a) + "x" + letter(b) + letter(b) + "~" + letter(a) + letter(a) + "_"
                        + letter(a) + "/" + letter(b) + "%");
                due("all can be", NONE, x.judge(0));
                due("annexed by the second act", 1, x.annexed(0));
                due("whom " + letter(b), b, x.annexed(1));
                due("done", 6, x.done());
                due("only hers is down", 1 << a, x.told(1));
                due("treaty", 1 << b, x.told(10 + a));
                due("treaty", 1 << a, x.told(10 + b));
                for (int one = 0; one < 8; one++) {
                    boolean isOf = one == a || one == b;
                    due("nation of " + letter(one), isOf ? 1 : 0, x.told(100 + 10 * one));
                    due("tears of " + letter(one), one == a ? 5 : one == b ? 3 : 0, x.told(102 + 10 * one));
                }
                due("hair", 8, x.told(2));
                due("day", 0, x.told(3));
                write(x, letter(a) + "^");
                due("lifted", 1, x.done());
                due("none is down", 0, x.told(1));
            }
        }
    }

    private static void gusts() {
        for (int mesh = 1; mesh <= 9; mesh++) {
            Counted x = new Counted();
            for (int one = 0; one < 8; one++) {
                x.one(one, one % 4, one == 5 ? 0 : 1, mesh, one + 1);
            }
            for (int strength = 1; strength <= 9; strength++) {
                write(x, "g" + strength);
                for (int one = 0; one < 8; one++) {
                    int thick = Math.max(mesh - one - 1, 0);
                    boolean stays = one != 5 && thick >= strength;
                    due("mesh " + mesh + ", gust " + strength + ", " + letter(one), stays ? 1 : 0, x.behind(one, 1));
                }
                due("a gust annexes none", 0, x.judge(2));
                due("a gust tears none", 3, x.behind(2, 2));
            }
        }
    }

    private static void days() {
        for (int nations = 0; nations < 64; nations++) {
            int left = nations % 4;
            int hers = nations / 4 % 4;
            int right = nations / 16;
            for (int veils = 0; veils < 8; veils++) {
                Counted x = new Counted();
                int one = (nations + veils) % 8;
                int beside = other(one, 7);
                int besideToo = other(one, 1);
                x.one(beside, left, veils & 1, 3, 0);
                x.one(one, hers, veils >> 1 & 1, 3, 0);
                x.one(besideToo, right, veils >> 2, 3, 0);
                write(x, ".");
                boolean isAnnexed = veils == 2 && left == right && left != hers;
                due("nations " + nations + ", veils " + veils, isAnnexed ? left : hers, x.behind(one, 0));
                due("her veil is as it was", veils >> 1 & 1, x.behind(one, 1));
                due("the day", 1, x.states(5));
            }
        }
    }

    private static void annexing() {
        for (int nations = 0; nations < 16; nations++) {
            int lifter = nations % 4;
            int lifted = nations / 4;
            Counted x = new Counted();
            x.one(6, lifter, 1, 3, 0);
            x.one(2, lifted, 1, 3, 0);
            write(x, "GxC");
            due("how often " + nations, lifter == lifted ? 0 : 1, x.judge(2));
            due("by which act " + nations, lifter == lifted ? NONE : 0, x.annexed(0));
            due("who " + nations, lifter == lifted ? NONE : 2, x.annexed(1));
            due("of whose nation " + nations, lifter, x.behind(2, 0));
            due("the lifter's nation " + nations, lifter, x.behind(6, 0));
            due("her veil " + nations, 0, x.behind(2, 1));
            due("the lifter's veil " + nations, 1, x.behind(6, 1));
        }
    }

    private static void kisses() {
        for (int nations = 0; nations < 16; nations++) {
            for (int veils = 0; veils < 4; veils++) {
                for (int treaty = 0; treaty < 2; treaty++) {
                    Counted x = new Counted();
                    x.one(7, nations % 4, veils % 2, 3, 0);
                    x.one(1, nations / 4, veils / 2, 3, 0);
                    x.treaty(1, 7, treaty == 1);
                    boolean isClosed = nations % 4 != nations / 4 && veils != 0;
                    int reason = isClosed ? 3 : treaty == 1 ? 4 : NONE;
                    judged(x, "H~B", reason == NONE ? NONE : 0, reason);
                    judged(x, "B~H", reason == NONE ? NONE : 0, reason);
                    if (reason == NONE) {
                        due("kept", 1, x.states(6));
                        due("their veils are as they were", veils, x.behind(7, 1) + 2 * x.behind(1, 1));
                    }
                }
            }
        }
    }

    /** Begun acts: behind each stands what may come next; all else can not stand there. */
    private static void faults() {
        String[] begun = {"", "C", "Cx", "C~", "g"};
        String[] next = {"ABCDEFGHg.", "_^x~/%", "ABCDEFGH", "ABCDEFGH", "123456789"};
        String[] ends = {".", "_^/%", "ABCDEFGH", "ABCDEFGH", "123456789"};
        for (int i = 0; i < begun.length; i++) {
            for (int sign = 33; sign <= 126; sign++) {
                for (String ahead : new String[] {"", "D_", ".H~A"}) {
                    Counted x = after(ahead + begun[i] + (char) sign);
                    int place = ahead.length() + begun[i].length();
                    boolean mayStand = next[i].indexOf(sign) >= 0;
                    boolean isWhole = ends[i].indexOf(sign) >= 0;
                    due("fault of " + ahead + begun[i] + (char) sign, isWhole ? NONE : mayStand ? place + 1 : place, x.fault());
                }
            }
        }
    }

    private static void greatestForAllSums() {
        Counted x = new Counted();
        for (int n = 0; n <= 200; n++) {
            due("43 for " + n, 43, x.stamps(20, 6, 9, n, 2));
            due("none for " + n, NONE, x.stamps(20, 6, 8, n, 2));
        }
    }

    private static void waysOfOnes() {
        Counted x = new Counted();
        for (int n = 0; n <= 200; n++) {
            due("fewest for " + n, n, x.stamps(1, 1, 1, n, 0));
            due("ways for " + n, (n + 1) * (n + 2) / 2, x.stamps(1, 1, 1, n, 1));
        }
    }

    private static boolean isDown(int m, int c, int f, int evening) {
        return (evening + f) % m < c;
    }

    private static List<Integer> fitting(int evening, boolean down) {
        List<Integer> codes = new ArrayList<>();
        for (int m = 2; m <= 7; m++) {
            for (int c = 1; c < m; c++) {
                for (int f = 0; f < m; f++) {
                    if (isDown(m, c, f, evening) == down) {
                        codes.add(100 * m + 10 * c + f);
                    }
                }
            }
        }
        return codes;
    }

    private static void singleSights() {
        for (int evening = 0; evening <= 60; evening++) {
            for (boolean down : new boolean[] {true, false}) {
                Counted x = new Counted();
                due("a sight", 1, x.seen(evening, down));
                List<Integer> codes = fitting(evening, down);
                due("how many", codes.size(), x.fits(-1));
                for (int i = 0; i < codes.size(); i++) {
                    due("evening " + evening + ", the " + i + "th", codes.get(i), x.fits(i));
                }
                due("no more", NONE, x.fits(codes.size()));
                x.seen(evening, !down);
                due("it can not be both", 0, x.fits(-1));
            }
        }
    }

    private static void refusedSight() {
        Counted x = new Counted();
        for (int i = 0; i < 8; i++) {
            due("every other evening", i + 1, x.seen(i, i % 2 == 0));
        }
        due("full", FULL, x.seen(8, false));
        due("only that fits", 1, x.fits(-1));
        due("only that fits", 210, x.fits(0));
        due("outside", OUTSIDE, x.seen(61, true));
        due("only that fits", 1, x.fits(-1));
        due("eight", 8, x.told(4));
    }

    private static void rising() {
        Counted x = new Counted();
        int last = 0;
        for (int i = 0; i < 112; i++) {
            int code = x.fits(i);
            int m = code / 100;
            int c = code / 10 % 10;
            boolean is = m >= 2 && m <= 7 && c >= 1 && c < m && code % 10 < m;
            due("the " + i + "th is one: " + code, 1, is ? 1 : 0);
            due("the " + i + "th rises: " + code, 1, code > last ? 1 : 0);
            last = code;
        }
    }

    private static void bestEvening() {
        for (int first = 0; first <= 60; first += 7) {
            Counted x = new Counted();
            x.seen(first, true);
            x.seen(first / 2, first % 2 == 0);
            int best = x.ask(0);
            int left = x.ask(1);
            for (int evening = 0; evening <= 60; evening++) {
                x.image(0);
                x.seen(evening, true);
                int down = x.fits(-1);
                x.restore(0);
                x.seen(evening, false);
                int most = Math.max(down, x.fits(-1));
                x.restore(0);
                boolean isWorse = evening < best ? most > left : evening == best ? most == left : most >= left;
                due("evening " + evening + " after " + first + ", best is " + best, 1, isWorse ? 1 : 0);
            }
        }
    }

    private static void leastLift() {
        Counted x = new Counted();
        x.one(3, 0, 1, 3, 0);
        x.one(4, 0, 1, 3, 0);
        x.one(5, 0, 1, 3, 0);
        due("D and C, not E and B, nor F and A", 32, x.lift(1));
        x.one(2, 0, 1, 3, 0);
        due("C and D to F: of 3, 4, 5, 6 only 4 to 0, 5 to 1 or 6 to 2", 33, x.lift(1));
        x.one(3, 0, 0, 3, 0);
        x.one(4, 0, 0, 3, 0);
        x.one(5, 0, 0, 3, 0);
        x.one(1, 0, 1, 3, 0);
        x.one(0, 0, 1, 3, 0);
        x.one(4, 0, 1, 3, 0);
        due("only E, of 1, 2, 3 and 5", 44, x.lift(1));
        due("nothing is lifted", 23, x.told(1));
    }

    private static void votesOfTwo() {
        Counted x = new Counted();
        // Of all orders of b against and the two for, those that begin with both (or with one, one against, one) hold.
        for (int b = 0; b <= 20; b++) {
            int orders = (b + 1) * (b + 2) / 2;
            int ahead = b == 0 ? 1 : b == 1 ? 1 : 0;
            int neverBehind = b == 0 ? 1 : b <= 2 ? 2 : 0;
            for (int what = 0; what < 2; what++) {
                long upper = x.votes(2, b, what, 0);
                long lower = x.votes(2, b, what, 1);
                due("two and " + b + ", " + what, (what == 0 ? ahead : neverBehind) * lower, upper * orders);
                due("in lowest terms", 1, java.math.BigInteger.valueOf(upper).gcd(java.math.BigInteger.valueOf(lower)).longValue());
            }
        }
    }
}
