/** What is empty, what is full, what goes round, each reason and each fault, by hand; numbers at their bounds: BoundsTest. */
public final class EdgesTest extends ByHand {
    public static void main(String[] args) {
        Checks.check("empty: the pad", EdgesTest::emptyPad);
        Checks.check("empty: sights", EdgesTest::noSights);
        Checks.check("empty: veils", EdgesTest::noVeils);
        Checks.check("empty: votes", EdgesTest::noVotes);
        Checks.check("empty: hair", EdgesTest::noHair);
        Checks.check("empty: treaties", EdgesTest::noTreaties);
        Checks.check("empty: images", EdgesTest::noImages);
        Checks.check("images: what comes behind does not touch them", EdgesTest::imagesStay);
        Checks.check("full: the pad", EdgesTest::fullPad);
        Checks.check("full: sights", EdgesTest::fullSights);
        Checks.check("full: tears", EdgesTest::fullTears);
        Checks.check("full: days", EdgesTest::fullDays);
        Checks.check("full: veils", EdgesTest::fullVeils);
        Checks.check("full: treaties, hair and calls", EdgesTest::fullRest);
        Checks.check("round: days", EdgesTest::daysGoRound);
        Checks.check("round: all at once", EdgesTest::daysAtOnce);
        Checks.check("round: who sees whom", EdgesTest::sightGoesRound);
        Checks.check("reasons: her veil", EdgesTest::reasonsOfVeils);
        Checks.check("reasons: both one", EdgesTest::reasonsOfBothOne);
        Checks.check("reasons: two nations, a treaty", EdgesTest::reasonsOfKisses);
        Checks.check("reasons: tears and hair", EdgesTest::reasonsOfTears);
        Checks.check("reasons: the last day", EdgesTest::reasonOfDays);
        Checks.check("reasons: what stands behind counts no more", EdgesTest::behindTheFirst);
        Checks.check("now: a text that is not done changes nothing", EdgesTest::asThingsAreNow);
        Checks.check("faults: signs that can not stand there", EdgesTest::faultsOfSigns);
        Checks.check("faults: more must come", EdgesTest::faultsOfEnds);
        Checks.check("faults: a faulty text is judged no further", EdgesTest::faultsComeFirst);
        Checks.end();
    }

    private static void nothingOnThePad(Counted x) {
        due("signs", 0, x.told(0));
        due("no fault", NONE, x.fault());
        due("no act", NONE, x.judge(0));
        due("no reason", NONE, x.judge(1));
        due("none annexed", 0, x.judge(2));
        due("by no act", NONE, x.annexed(0));
        due("no one", NONE, x.annexed(1));
        due("no acts", 0, x.done());
        due("no signs", 0, x.wipe());
    }

    private static void emptyPad() {
        Counted x = new Counted();
        nothingOnThePad(x);
        x.one(6, 2, 1, 7, 3);
        x.one(5, 1, 0, 7, 3);
        x.one(7, 1, 0, 7, 3);
        due("as it is: nation", 2, x.behind(6, 0));
        due("as it is: veil", 1, x.behind(6, 1));
        due("as it is: tears", 3, x.behind(6, 2));
        due("as it is: thick", 4, x.behind(6, 3));
        due("as it is: of nation 1", 2, x.states(1));
        due("as it is: the day", 0, x.states(5));
        nothingOnThePad(x);
        due("no day went by", 2, x.told(160));
        write(x, "A_Z");
        due("wiped", 3, x.wipe());
        nothingOnThePad(x);
        write(x, "A_B_");
        due("done", 2, x.done());
        nothingOnThePad(x);
        due("and it is so", 64 + 3, x.told(1));
    }

    private static void noSights() {
        Counted x = new Counted();
        due("no sights", 0, x.told(4));
        due("none to forget", 0, x.forget());
        due("all fit", 112, x.fits(-1));
        due("the least", 210, x.fits(0));
        due("the greatest", 766, x.fits(111));
        due("ask", 0, x.ask(0));
        due("ask", 56, x.ask(1));
        x.image(0);
        x.seen(0, true);
        due("a sight", 56, x.fits(-1));
        x.restore(0);
        due("no sight was kept", 0, x.told(4));
        due("all fit", 112, x.fits(-1));
        due("the first again", 1, x.seen(0, false));
        due("a sight", 56, x.fits(-1));
        due("forgotten", 1, x.forget());
        due("all fit", 112, x.fits(-1));
        due("none to forget", 0, x.forget());
    }

    private static void noVeils() {
        Counted x = new Counted();
        x.one(3, 2, 0, 9, 0);
        due("no veil", 0, x.told(1));
        due("who begins has lost", 0, x.lift(0));
        due("by no lifting", NONE, x.lift(1));
        for (int one = 0; one < 8; one++) {
            due("all are seen by " + one, 255 - (1 << one), x.sees(one, 0));
            due("not thick: " + one, 0, x.behind(one, 3));
        }
        write(x, "g9.g1.");
        due("gusts and days can be", NONE, x.judge(0));
        due("and annex none", 0, x.judge(2));
        due("of nation 2", 1, x.states(2));
        due("all", 4, x.done());
        due("no veil", 0, x.told(1));
        due("by acts alone", 0, x.year(1, 1, 1));
    }

    private static void noVotes() {
        Counted x = new Counted();
        for (int what = 0; what < 2; what++) {
            due("no votes", 1, x.votes(0, 0, what, 0));
            due("no votes", 1, x.votes(0, 0, what, 1));
            due("none for", 0, x.votes(0, 1, what, 0));
            due("none for", 1, x.votes(0, 1, what, 1));
            due("none for, many against", 0, x.votes(0, 20, what, 0));
            due("none for, many against", 1, x.votes(0, 20, what, 1));
            due("none against", 1, x.votes(1, 0, what, 0));
            due("none against", 1, x.votes(1, 0, what, 1));
        }
        due("all for all", 0, x.votes(20, 20, 0, 0));
        due("all for all", 1, x.votes(20, 20, 0, 1));
        due("all for all", 1, x.votes(20, 20, 1, 0));
        due("all for all", 21, x.votes(20, 20, 1, 1));
        due("one more", 1, x.votes(20, 19, 0, 0));
        due("one more", 39, x.votes(20, 19, 0, 1));
        due("one more", 2, x.votes(20, 19, 1, 0));
        due("one more", 21, x.votes(20, 19, 1, 1));
        due("one less", 0, x.votes(19, 20, 0, 0));
        due("one less", 0, x.votes(19, 20, 1, 0));
    }

    private static void noHair() {
        Counted x = new Counted();
        due("hair", 9, x.hair(0));
        due("none", 0, x.told(2));
        due("none behind nothing", 0, x.states(4));
        x.one(4, 0, 0, 3, 9);
        judged(x, "E%", 0, 5);
        judged(x, "E_E^E%", 2, 5);
        x.hair(1);
        write(x, "E%");
        due("the last hair", 0, x.states(4));
        due("mended", 8, x.behind(4, 2));
        judged(x, "E%E%", 1, 5);
        judged(x, "E%F/F%", 2, 5);
        due("hair is as it was", 1, x.told(2));
        write(x, "E%");
        due("done", 1, x.done());
        due("none", 0, x.told(2));
        due("none", 0, x.hair(2));
        judged(x, "E%E%E%", 2, 5);
    }

    private static void noTreaties() {
        Counted x = new Counted();
        due("none", 0, x.states(6));
        due("none to end", 0, x.treaty(7, 0, false));
        due("none in a year of one act", 0, x.year(1, 1, 2));
        for (int one = 0; one < 8; one++) {
            due("none of " + one, 0, x.told(10 + one));
        }
        due("one", 1, x.treaty(7, 0, true));
        due("none again", 0, x.treaty(0, 7, false));
        due("none of the first", 0, x.told(10));
        due("none of the last", 0, x.told(17));
        write(x, "A~H");
        due("one behind the text", 1, x.states(6));
        due("none yet", 0, x.treaty(1, 2, false));
    }

    private static void noImages() {
        Counted x = new Counted();
        x.hair(50);
        due("none kept", STATE, x.restore(0));
        due("none kept", STATE, x.restore(1));
        due("refused", OUTSIDE, x.image(-1));
        due("refused", OUTSIDE, x.image(2));
        due("none kept yet", STATE, x.restore(0));
        due("none kept yet", STATE, x.restore(1));
        due("nothing changed", 50, x.told(2));
        due("kept", 1, x.image(1));
        due("but not that one", STATE, x.restore(0));
        x.hair(20);
        due("the second", 1, x.restore(1));
        due("hair", 50, x.told(2));
        due("an image stays kept", 1, x.restore(1));
        due("still not that one", STATE, x.restore(0));
    }

    private static void changeAll(Counted x, int one, int call) {
        write(x, "A/.");
        x.done();
        x.one(one, 3, 1, 8, 7);
        x.treaty(one, (one + 1) % 8, true);
        x.hair(80 + one);
        x.pay(call, 7, 70 + call);
        x.seen(one, true);
    }

    private static void asAtFirst(Counted x, int one, int call) {
        due("nation", 0, x.told(100 + 10 * one));
        due("mesh", 3, x.told(101 + 10 * one));
        due("tears", 0, x.told(102 + 10 * one));
        due("tears of the first", 0, x.told(102));
        due("treaties", 0, x.told(10 + one));
        due("treaties", 0, x.told(10 + (one + 1) % 8));
        due("veils", 0, x.told(1));
        due("hair", 9, x.told(2));
        due("day", 0, x.told(3));
        due("sights", 0, x.told(4));
        due("all fit", 112, x.fits(-1));
        due("minutes", 1, x.told(20 + call));
        due("due", 0, x.told(30 + call));
    }

    private static void imagesStay() {
        Counted x = new Counted();
        x.image(0);
        for (int i = 0; i < 8; i++) {
            changeAll(x, i, i % 6);
            x.image(1);
            due("as at first", 1, x.restore(0));
            asAtFirst(x, i, i % 6);
            changeAll(x, (i + 3) % 8, (i + 1) % 6);
            due("as it was last", 1, x.restore(1));
            due("nation", 3, x.told(100 + 10 * i));
            due("veils", 1 << i, x.told(1));
            due("hair", 80 + i, x.told(2));
            due("day", 1, x.told(3));
            due("sights", 1, x.told(4));
            due("treaties of all", 1, x.states(6));
            due("minutes", 7, x.told(20 + i % 6));
            x.restore(0);
        }
        write(x, "A_B_");
        x.image(0);
        write(x, "C^");
        x.restore(0);
        due("the pad is in no image", 2, x.told(0));
        due("the pad is as it was written", 1, x.judge(1));
    }

    private static void fullPad() {
        Counted x = after("A_" + ".".repeat(57));
        due("the 60th sign", 60, x.say('.'));
        for (int sign : new int[] {'.', 'A', 'Z', 33, 126}) {
            due("one more", FULL, x.say(sign));
        }
        for (int sign : new int[] {32, 127, LOW, HIGH}) {
            due("outside comes first", OUTSIDE, x.say(sign));
        }
        due("sixty", 60, x.told(0));
        due("no fault", NONE, x.fault());
        due("nothing is written over", 58, x.states(5));
        due("acts", 59, x.done());
        due("room again", 1, x.say('B'));
        write(x, "g5".repeat(29) + ".");
        due("the 60th sign begins an act", 60, x.say('H'));
        due("more must come", 60, x.fault());
        due("but can not", FULL, x.say('_'));
        due("more must come", 60, x.fault());
        due("all signs", 60, x.wipe());
        write(x, "g5".repeat(29) + ".");
        due("the 60th sign can not stand there", 60, x.say('_'));
        due("it can not", 59, x.fault());
        write(x, "C~D" + "C_C^".repeat(14));
        due("59 signs", 59, x.told(0));
        due("the 60th sign", 60, x.say('.'));
        due("no fault", NONE, x.fault());
        due("acts of all lengths", 30, x.done());
    }

    private static void fullSights() {
        Counted x = new Counted();
        for (int i = 1; i <= 8; i++) {
            due("sight", i, x.seen(2 * i, true));
        }
        due("every other evening fits", 210, x.fits(0));
        int fitting = x.fits(-1);
        due("one more", FULL, x.seen(2, false));
        due("one more", FULL, x.seen(0, true));
        due("one more", FULL, x.seen(60, true));
        due("outside comes first", OUTSIDE, x.seen(61, true));
        due("outside comes first", OUTSIDE, x.seen(-1, false));
        due("eight", 8, x.told(4));
        due("as many fit", fitting, x.fits(-1));
        x.image(0);
        due("forgotten", 8, x.forget());
        due("room again", 1, x.seen(0, false));
        x.restore(0);
        due("eight are kept", 8, x.told(4));
        due("full again", FULL, x.seen(2, true));
        due("as many fit", fitting, x.fits(-1));
    }

    private static void fullTears() {
        Counted x = new Counted();
        x.one(7, 0, 1, 9, 8);
        write(x, "H/");
        due("the ninth", 9, x.behind(7, 2));
        due("crape torn through", 0, x.behind(7, 3));
        due("nine", 1, x.done());
        judged(x, "H/", 0, 5);
        judged(x, "H%H/H/", 2, 5);
        write(x, "H%");
        due("mended", 8, x.behind(7, 2));
        due("a thread", 1, x.behind(7, 3));
        x.one(0, 0, 1, 1, 0);
        judged(x, "A/A/A/A/A/A/A/A/A/A/", 9, 5);
        write(x, "A/A/A/A/A/A/A/A/A/");
        due("nine", 9, x.behind(0, 2));
        due("no thinner than 0", 0, x.behind(0, 3));
        due("another's are her own", 0, x.behind(1, 2));
    }

    private static void fullDays() {
        Counted x = new Counted();
        write(x, ".".repeat(60));
        due("sixty days", 60, x.states(5));
        due("sixty acts", 60, x.done());
        judged(x, ".".repeat(39), NONE, NONE);
        due("the last day", 99, x.states(5));
        judged(x, ".".repeat(40), 39, 6);
        judged(x, ".".repeat(60), 39, 6);
        due("none went by", 60, x.told(3));
        write(x, ".".repeat(38));
        due("day 98", 38, x.done());
        judged(x, ".", NONE, NONE);
        due("one more", 1, x.done());
        due("day 99", 99, x.told(3));
        judged(x, ".", 0, 6);
        judged(x, "A_.", 1, 6);
        judged(x, "A_A^g1A/A%A~B", NONE, NONE);
        due("the rest can be", 6, x.done());
        due("day 99", 99, x.told(3));
        x.one(1, 1, 1, 3, 0);
        due("a year's day can not be", 7, x.year(10, 1, 0));
        x.image(0);
        due("kept with its day", 1, x.restore(0));
        judged(x, ".", 0, 6);
    }

    private static void fullVeils() {
        Counted x = new Counted();
        for (int one = 0; one < 8; one++) {
            x.one(one, one % 2, 1, one + 1, 0);
        }
        due("all", 255, x.told(1));
        due("who begins can win", 1, x.lift(0));
        due("she lifts the last", 77, x.lift(1));
        write(x, ".");
        due("none is annexed between veils", 0, x.judge(2));
        for (int one = 0; one < 8; one++) {
            judged(x, (char) ('A' + one) + "_", 0, 1);
            due("through two veils", one == 0 ? 3 : one == 7 ? 9 : 2 * one + 1, thinnestFrom(x, one));
        }
        write(x, "g9");
        due("all are lifted", 0, x.behind(7, 1));
        due("none is thick", 0, x.behind(7, 3));
        write(x, "g8");
        due("but the last", 1, x.behind(7, 1));
        due("done", 1, x.done());
        due("the last", 128, x.told(1));
        due("all or half of it", 77, x.lift(1));
    }

    private static int thinnestFrom(Counted x, int one) {
        int e = 0;
        while (e < 99 && x.sees(one, e) == 0) {
            e++;
        }
        return e;
    }

    private static void fullRest() {
        Counted x = new Counted();
        for (int one = 0; one < 8; one++) {
            x.one(one, one % 4, 0, 3, 1);
            for (int other = 0; other < one; other++) {
                due("treaty", one * (one - 1) / 2 + other + 1, x.treaty(one, other, true));
            }
        }
        due("all with the first", 254, x.told(10));
        due("all with the last", 127, x.told(17));
        due("no quarrel", 0, x.camps(0));
        due("all in one camp", 255, x.camps(1));
        judged(x, "H~A", 0, 4);
        due("one less", 27, x.treaty(0, 7, false));
        judged(x, "H~A", NONE, NONE);
        due("28 again", 28, x.states(6));
        due("all but her own", 126, x.told(10));
        x.hair(99);
        write(x, "A%");
        due("hair", 98, x.states(4));
        for (int call = 0; call < 6; call++) {
            x.pay(call, 9, 99);
        }
        due("none is late", 0, x.late(0));
        due("all are in time", 63, x.late(1));
        for (int call = 0; call < 6; call++) {
            x.pay(call, 9, 53);
        }
        due("54 minutes are one too many", 1, x.late(0));
        due("the least five", 31, x.late(1));
    }

    /** All ones of nation 0 without veils, but these two and her between them. */
    private static Counted between(int left, int leftNation, int one, int right, int rightNation) {
        Counted x = new Counted();
        x.one(left, leftNation, 0, 3, 0);
        x.one(right, rightNation, 0, 3, 0);
        x.one(one, 3, 1, 1, 9);
        return x;
    }

    private static void daysGoRound() {
        for (int one = 0; one < 8; one++) {
            int left = one == 0 ? 7 : one - 1;
            int right = one == 7 ? 0 : one + 1;
            Counted x = between(left, 2, one, right, 2);
            write(x, ".");
            due("annexed " + one, 1, x.judge(2));
            due("who", one, x.annexed(1));
            due("by nation 2", 2, x.behind(one, 0));
            due("her veil is down yet", 1, x.behind(one, 1));
            x.one(left, 2, 1, 3, 0);
            due("the left one's is down: " + one, 3, x.behind(one, 0));
            x.one(left, 2, 0, 3, 0);
            x.one(right, 2, 1, 3, 0);
            due("the right one's is down: " + one, 3, x.behind(one, 0));
            x.one(right, 1, 0, 3, 0);
            due("the right one of another nation: " + one, 3, x.behind(one, 0));
            x.one(right, 2, 0, 3, 0);
            x.one(left, 1, 0, 3, 0);
            due("the left one of another nation: " + one, 3, x.behind(one, 0));
            x.one(left, 3, 0, 3, 0);
            x.one(right, 3, 0, 3, 0);
            due("of her own nation: " + one, 0, x.judge(2));
            x.one(left, 2, 0, 3, 0);
            x.one(right, 2, 0, 3, 0);
            x.one(one, 3, 0, 3, 0);
            due("hers is lifted: " + one, 3, x.behind(one, 0));
        }
    }

    private static void daysAtOnce() {
        Counted x = new Counted();
        for (int one = 0; one < 8; one += 2) {
            x.one(one, 1, 1, 3, 0);
        }
        write(x, ".");
        due("four at once", 4, x.judge(2));
        due("all of one nation", 8, x.states(0));
        due("the least", 0, x.annexed(1));
        x.one(7, 2, 0, 3, 0);
        due("two only", 2, x.judge(2));
        due("not 0 nor 6", 2, x.annexed(1));
        x.one(1, 2, 0, 3, 0);
        due("two again", 2, x.judge(2));
        due("0 and 4", 0, x.annexed(1));
        due("0 is of 2 now", 2, x.behind(0, 0));
        due("2 is as she was", 1, x.behind(2, 0));
        due("4 is of 0 now", 0, x.behind(4, 0));
        due("6 is as she was", 1, x.behind(6, 0));
        write(x, "AxC.");
        due("by hand, one of her nation", 2, x.judge(2));
        due("by the day", 1, x.annexed(0));
        write(x, "BxC.");
        due("by hand, and by the day", 3, x.judge(2));
        due("by hand", 0, x.annexed(0));
        due("by hand", 2, x.annexed(1));
    }

    private static void sightGoesRound() {
        Counted x = new Counted();
        x.one(0, 0, 1, 5, 0);
        x.one(4, 0, 1, 9, 0);
        due("7 before 0 and 4", 32 + 64, x.sees(7, 4));
        due("7 over 0 up to 4", 127 - 16, x.sees(7, 5));
        due("7 not through 4", 127 - 16, x.sees(7, 8));
        due("7 to 4", 127, x.sees(7, 9));
        due("1 before 0 and 4", 4 + 8, x.sees(1, 4));
        due("1 over 0 down to 4", 255 - 2 - 16, x.sees(1, 5));
        due("1 to 4", 255 - 2, x.sees(1, 9));
        due("0 not through her own", 0, x.sees(0, 4));
        due("0 both ways up to 4", 254 - 16, x.sees(0, 5));
        due("0 not yet 4", 254 - 16, x.sees(0, 13));
        due("0 all", 254, x.sees(0, 14));
        due("4 none", 0, x.sees(4, 8));
        due("4 both ways up to 0", 255 - 16 - 1, x.sees(4, 9));
        due("4 not yet 0", 255 - 16 - 1, x.sees(4, 13));
        due("4 all", 255 - 16, x.sees(4, 14));
        x.one(4, 0, 0, 9, 0);
        x.one(0, 0, 0, 5, 0);
        x.one(7, 0, 1, 5, 0);
        x.one(3, 0, 1, 9, 0);
        due("0 up only", 2 + 4, x.sees(0, 4));
        due("0 over 7 down to 3", 254 - 8, x.sees(0, 5));
        due("6 down only", 16 + 32, x.sees(6, 4));
        due("6 over 7 up to 3", 255 - 64 - 8, x.sees(6, 5));
        due("7 both ways", 255 - 128 - 8, x.sees(7, 5));
        due("7 none", 0, x.sees(7, 4));
        due("3 at last", 8 + 255 - 128 - 8, x.sees(7, 14));
    }

    private static void reasonsOfVeils() {
        Counted x = new Counted();
        x.one(0, 0, 1, 3, 0);
        x.one(7, 0, 1, 3, 0);
        judged(x, "A_", 0, 1);
        judged(x, "H_", 0, 1);
        judged(x, "B_", NONE, NONE);
        judged(x, "A^", NONE, NONE);
        judged(x, "B^", 0, 1);
        judged(x, "AxH", NONE, NONE);
        judged(x, "BxH", NONE, NONE);
        judged(x, "HxB", 0, 1);
        judged(x, "CxB", 0, 1);
        judged(x, "AxHBxH", 1, 1);
        judged(x, "A^A^", 1, 1);
        judged(x, "g4A^", 1, 1);
        judged(x, "g4A_H_", NONE, NONE);
        judged(x, "g3A_", 1, 1);
    }

    private static void reasonsOfBothOne() {
        Counted x = new Counted();
        x.one(3, 1, 1, 3, 0);
        judged(x, "DxD", 0, 2);
        judged(x, "D~D", 0, 2);
        judged(x, "E~E", 0, 2);
        judged(x, "ExE", 0, 1);
        judged(x, "E_ExE", 1, 2);
        judged(x, "D^DxD", 1, 1);
        judged(x, "D^D~D", 1, 2);
    }

    private static void reasonsOfKisses() {
        Counted x = new Counted();
        x.one(2, 1, 0, 3, 0);
        judged(x, "C~D", NONE, NONE);
        judged(x, "C_C~D", 1, 3);
        judged(x, "D_C~D", 1, 3);
        judged(x, "C_D_C~D", 2, 3);
        judged(x, "E_C~D", NONE, NONE);
        judged(x, "A_B_A~B", NONE, NONE);
        judged(x, "C~DC~D", 1, 4);
        judged(x, "C~DD~C", 1, 4);
        judged(x, "A_A~BB~A", 2, 4);
        judged(x, "C~DC_D~C", 2, 3);
        judged(x, "C~DD_D~C", 2, 3);
        judged(x, "C_DxCC_C~D", NONE, NONE);
        x.treaty(3, 2, true);
        judged(x, "C~D", 0, 4);
        judged(x, "C_D_D~C", 2, 3);
        x.treaty(2, 3, false);
        judged(x, "D~C", NONE, NONE);
    }

    private static void reasonsOfTears() {
        Counted x = new Counted();
        x.one(1, 0, 0, 3, 9);
        judged(x, "B/", 0, 5);
        judged(x, "A%", 0, 5);
        judged(x, "B%B/", NONE, NONE);
        judged(x, "A/A%A%", 2, 5);
        judged(x, "B%B%B%B%B%B%B%B%B%B%", 9, 5);
        x.hair(0);
        judged(x, "B%", 0, 5);
        judged(x, "A%", 0, 5);
        judged(x, "B/", 0, 5);
        judged(x, "A/", NONE, NONE);
        x.hair(2);
        judged(x, "B%A/A%B%", 3, 5);
        write(x, "B%A/A%");
        due("one less of both", 0, x.states(4));
        due("one less of both", 8, x.behind(1, 2));
    }

    private static void reasonOfDays() {
        Counted x = new Counted();
        passAllDays(x);
        judged(x, ".", 0, 6);
        judged(x, "..", 0, 6);
        judged(x, "A_.A_", 1, 6);
        judged(x, "A_A_.", 1, 1);
        judged(x, "g1", NONE, NONE);
        due("day 99", 99, x.told(3));
    }

    private static void behindTheFirst() {
        Counted x = new Counted();
        x.one(0, 1, 1, 3, 9);
        String[] firsts = {"A_", "B^", "AxB", "AxA", "B~B", "A~B", "A/", "B%"};
        int[] reasons = {1, 1, 1, 2, 2, 3, 5, 5};
        for (int i = 0; i < firsts.length; i++) {
            judged(x, firsts[i], 0, reasons[i]);
            judged(x, firsts[i] + "A_B^", 0, reasons[i]);
            judged(x, "C/C%" + firsts[i] + "BxA.C^", 2, reasons[i]);
        }
        write(x, "BxAB^");
        due("annexed ahead of it", STATE, x.judge(2));
        write(x, "BxA.B^C_");
        due("judge(0)", 2, x.judge(0));
        due("judge(2)", STATE, x.judge(2));
        for (int what = 0; what < 2; what++) {
            due("annexed", STATE, x.annexed(what));
        }
        for (int what = 0; what < 4; what++) {
            due("behind", STATE, x.behind(2, what));
        }
        for (int what = 0; what < 7; what++) {
            due("states", STATE, x.states(what));
        }
        due("done", STATE, x.done());
        due("nothing is done", 1, x.told(1));
        due("nothing is done", 0, x.told(3));
        due("the text stays", 8, x.told(0));
    }

    private static void asThingsAreNow() {
        Counted x = new Counted();
        x.one(4, 2, 1, 6, 0);
        int seen = x.sees(0, 5);
        int camp = x.camps(1);
        int first = x.lift(1);
        int[] year = {x.year(3, 20, 0), x.year(3, 20, 1), x.year(3, 20, 2)};
        due("not through hers", 254 - 16, seen);
        due("2 in the other camp", 255 - 16, camp);
        due("hers", 44, first);
        write(x, "AxEB_C_C/D~F.");
        due("two veils behind the text", 6, veilsBehind(x));
        due("sees", seen, x.sees(0, 5));
        due("camps", camp, x.camps(1));
        due("lift", first, x.lift(1));
        for (int what = 0; what < 3; what++) {
            due("year", year[what], x.year(3, 20, what));
        }
        due("veils", 16, x.told(1));
        due("treaties", 0, x.told(13));
        due("nation", 2, x.told(140));
        x.image(0);
        x.restore(0);
        due("still behind the text alone", 6, veilsBehind(x));
        due("acts", 6, x.done());
        due("veils", 6, x.told(1));
        due("sees all but 1", 254 - 2, x.sees(0, 2));
        due("no quarrel", 1, x.camps(1));
        due("lift", 21, x.lift(1));
    }

    private static int veilsBehind(Counted x) {
        int bits = 0;
        for (int one = 0; one < 8; one++) {
            bits |= x.behind(one, 1) << one;
        }
        return bits;
    }

    private static void faulty(String text, int place) {
        due("fault of " + text, place, after(text).fault());
    }

    private static void faultsOfSigns() {
        for (String ahead : new String[] {"", ".", "A_", "H^", "AxB", "C~D", "E/", "F%", "g1", "g9", "A_g1.HxA"}) {
            int at = ahead.length();
            for (String wrong : new String[] {"_", "^", "x", "~", "/", "%", "1", "@", "I", "a", "G.", "f", "h", "!"}) {
                faulty(ahead + wrong + "A_", wrong.equals("G.") ? at + 1 : at);
            }
            for (String wrong : new String[] {"AA", "Ag", "A.", "A1", "AX", "A@", "A!", "gA", "g0", "g.", "g:", "gg", "g_"}) {
                faulty(ahead + wrong + ".", at + 1);
            }
            for (String wrong : new String[] {"Ax@", "AxI", "Axa", "Ax_", "Axx", "Ax.", "A~@", "A~I", "A~~", "A~1", "A~g"}) {
                faulty(ahead + wrong + ".", at + 2);
            }
        }
        faulty("ZZ", 0);
        faulty(".ZA!", 1);
        faulty("A_A_Z", 4);
    }

    private static void faultsOfEnds() {
        for (String ahead : new String[] {"", ".", "A_", "g9", "HxA", "B~CD/E%F^"}) {
            for (String begun : new String[] {"A", "H", "g", "Ax", "H~"}) {
                faulty(ahead + begun, ahead.length() + begun.length());
            }
            faulty(ahead, NONE);
        }
        Counted x = new Counted();
        int[] faults = {1, 2, NONE, 4, NONE, NONE, 7, NONE, 8};
        String text = "AxHg5.B_Z";
        for (int i = 0; i < text.length(); i++) {
            due("say", i + 1, x.say(text.charAt(i)));
            due("fault of " + text.substring(0, i + 1), faults[i], x.fault());
        }
        due("say", 10, x.say('.'));
        due("the fault stays", 8, x.fault());
        due("a sign that is refused", OUTSIDE, x.say(127));
        due("the fault stays", 8, x.fault());
    }

    private static void faultsComeFirst() {
        Counted x = new Counted();
        for (String text : new String[] {"A^Z", "A^A", "Z", "A_A_.g", "AxAAx"}) {
            write(x, text);
            for (int what = 0; what < 3; what++) {
                due("judge of " + text, NO, x.judge(what));
            }
            for (int what = 0; what < 4; what++) {
                due("behind of " + text, NO, x.behind(0, what));
            }
            for (int what = 0; what < 7; what++) {
                due("states of " + text, NO, x.states(what));
            }
            for (int what = 0; what < 2; what++) {
                due("annexed of " + text, NO, x.annexed(what));
            }
            due("done of " + text, NO, x.done());
            due("the text stays", text.length(), x.told(0));
        }
        due("nothing is done", 0, x.told(1));
    }
}
