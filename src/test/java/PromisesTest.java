/** For each promise of the document: ordinary inputs, the edges that it names, and wrong inputs. */
public final class PromisesTest extends ByHand {
    public static void main(String[] args) {
        Checks.check("promise 1: a new object", PromisesTest::newObject);
        Checks.check("promise 2: one", PromisesTest::one);
        Checks.check("promise 3: treaty", PromisesTest::treaty);
        Checks.check("promise 4: hair", PromisesTest::hair);
        Checks.check("promise 5: pay", PromisesTest::pay);
        Checks.check("promise 6: say", PromisesTest::say);
        Checks.check("promise 7: wipe", PromisesTest::wipe);
        Checks.check("promise 8: fault, first signs", PromisesTest::faultOfFirstSigns);
        Checks.check("promise 8: fault, signs within acts", PromisesTest::faultWithinActs);
        Checks.check("promise 9: judge, the reasons", PromisesTest::judgeReasons);
        Checks.check("promise 9: judge, the least reason", PromisesTest::judgeLeastReason);
        Checks.check("promise 9: judge, how often", PromisesTest::judgeTimes);
        Checks.check("promise 9: judge, refusals", PromisesTest::judgeRefusals);
        Checks.check("promise 10: behind, what acts do", PromisesTest::behindActs);
        Checks.check("promise 10: behind, gusts", PromisesTest::behindGusts);
        Checks.check("promise 10: behind, days", PromisesTest::behindDays);
        Checks.check("promise 10: behind, refusals", PromisesTest::behindRefusals);
        Checks.check("promise 11: states", PromisesTest::states);
        Checks.check("promise 12: annexed", PromisesTest::annexed);
        Checks.check("promise 13: done", PromisesTest::done);
        Checks.check("promise 14: sees", PromisesTest::sees);
        Checks.check("promise 15: camps", PromisesTest::camps);
        Checks.check("promise 16: late", PromisesTest::late);
        Checks.check("promise 17: stamps", PromisesTest::stamps);
        Checks.check("promise 18: seen", PromisesTest::seen);
        Checks.check("promise 19: forget", PromisesTest::forget);
        Checks.check("promise 20: fits", PromisesTest::fits);
        Checks.check("promise 21: ask", PromisesTest::ask);
        Checks.check("promise 22: lift", PromisesTest::lift);
        Checks.check("promise 23: votes", PromisesTest::votes);
        Checks.check("promise 24: year", PromisesTest::year);
        Checks.check("promise 25: image", PromisesTest::image);
        Checks.check("promise 26: restore", PromisesTest::restore);
        Checks.check("promise 27: told", PromisesTest::told);
        Checks.end();
    }

    private static void newObject() {
        Counted x = new Counted();
        for (int one = 0; one < 8; one++) {
            due("nation of " + one, 0, x.told(100 + 10 * one));
            due("mesh of " + one, 3, x.told(101 + 10 * one));
            due("tears of " + one, 0, x.told(102 + 10 * one));
            due("treaties of " + one, 0, x.told(10 + one));
        }
        for (int call = 0; call < 6; call++) {
            due("minutes of " + call, 1, x.told(20 + call));
            due("due of " + call, 0, x.told(30 + call));
        }
        due("signs", 0, x.told(0));
        due("veils", 0, x.told(1));
        due("hair", 9, x.told(2));
        due("day", 0, x.told(3));
        due("sights", 0, x.told(4));
        due("no image", STATE, x.restore(0));
        due("no image", STATE, x.restore(1));
    }

    private static void one() {
        Counted x = new Counted();
        due("one", 0, x.one(7, 3, 1, 9, 9));
        due("one again", 3, x.one(7, 1, 0, 1, 0));
        due("nation", 1, x.told(170));
        due("mesh", 1, x.told(171));
        due("tears", 0, x.told(172));
        due("veils", 0, x.told(1));
        due("edges", 0, x.one(0, 3, 1, 9, 9));
        due("nation", 3, x.told(100));
        due("mesh", 9, x.told(101));
        due("tears", 9, x.told(102));
        due("veils", 1, x.told(1));
        for (int wrong : new int[] {-1, 8, LOW, HIGH}) {
            due("who", UNKNOWN, x.one(wrong, 4, 2, 0, 10));
        }
        int[][] outside = {
            {-1, 0, 3, 0}, {4, 0, 3, 0}, {0, -1, 3, 0}, {0, 2, 3, 0}, {0, 0, 0, 0}, {0, 0, 10, 0}, {0, 0, 3, -1},
            {0, 0, 3, 10}, {LOW, 0, 3, 0}, {0, HIGH, 3, 0}, {0, 0, LOW, 0}, {0, 0, 3, HIGH}};
        for (int[] w : outside) {
            due("one outside", OUTSIDE, x.one(0, w[0], w[1], w[2], w[3]));
        }
        due("unchanged", 3, x.one(0, 0, 0, 1, 0));
    }

    private static void treaty() {
        Counted x = new Counted();
        due("first", 1, x.treaty(0, 7, true));
        due("the other way", 1, x.treaty(7, 0, true));
        due("second", 2, x.treaty(3, 0, true));
        due("of 0", 136, x.told(10));
        due("of 7", 1, x.told(17));
        due("not kept anyway", 2, x.treaty(1, 2, false));
        due("no more", 1, x.treaty(7, 0, false));
        due("of 0", 8, x.told(10));
        due("of 7", 0, x.told(17));
        due("both one", UNKNOWN, x.treaty(3, 3, false));
        for (int wrong : new int[] {-1, 8, LOW, HIGH}) {
            due("one", UNKNOWN, x.treaty(wrong, 0, true));
            due("other", UNKNOWN, x.treaty(0, wrong, true));
        }
        for (int one = 0; one < 8; one++) {
            for (int other = one + 1; other < 8; other++) {
                x.treaty(other, one, true);
            }
        }
        due("all", 28, x.treaty(0, 1, true));
    }

    private static void hair() {
        Counted x = new Counted();
        due("hair", 9, x.hair(99));
        due("hair", 99, x.hair(0));
        for (int wrong : new int[] {-1, 100, LOW, HIGH}) {
            due("hair outside", OUTSIDE, x.hair(wrong));
        }
        due("hair", 0, x.hair(5));
        due("told", 5, x.told(2));
    }

    private static void pay() {
        Counted x = new Counted();
        due("pay", 100, x.pay(0, 9, 99));
        due("pay", 999, x.pay(0, 1, 0));
        due("pay", 100, x.pay(5, 4, 7));
        due("minutes", 4, x.told(25));
        due("due", 7, x.told(35));
        for (int wrong : new int[] {-1, 6, LOW, HIGH}) {
            due("call", UNKNOWN, x.pay(wrong, 0, 100));
        }
        for (int wrong : new int[] {0, 10, LOW, HIGH}) {
            due("minutes outside", OUTSIDE, x.pay(5, wrong, 0));
        }
        for (int wrong : new int[] {-1, 100, LOW, HIGH}) {
            due("due outside", OUTSIDE, x.pay(5, 1, wrong));
        }
        due("unchanged", 407, x.pay(5, 1, 0));
    }

    private static void say() {
        Counted x = new Counted();
        for (int wrong : new int[] {32, 127, 0, -1, LOW, HIGH, 65 + 65536}) {
            due("sign outside", OUTSIDE, x.say(wrong));
        }
        due("least sign", 1, x.say(33));
        due("greatest sign", 2, x.say(126));
        for (int i = 3; i <= 60; i++) {
            due("sign", i, x.say(46));
        }
        due("full", FULL, x.say(46));
        due("outside comes first", OUTSIDE, x.say(32));
        due("signs", 60, x.told(0));
        due("wiped", 60, x.wipe());
        due("room again", 1, x.say(46));
    }

    private static void wipe() {
        Counted x = after("A_B");
        due("wipe", 3, x.wipe());
        due("wipe again", 0, x.wipe());
        due("no fault", NONE, x.fault());
        due("signs", 0, x.told(0));
        write(x, "A_");
        due("written anew", NONE, x.fault());
        due("nothing of it was done", 0, x.told(1));
    }

    private static void faultOfFirstSigns() {
        due("empty", NONE, new Counted().fault());
        for (int sign = 33; sign <= 126; sign++) {
            boolean begins = sign >= 'A' && sign <= 'H' || sign == 'g' || sign == '.';
            int want = sign == '.' ? NONE : begins ? 1 : 0;
            due("sign " + sign, want, after(String.valueOf((char) sign)).fault());
            due("sign behind an act " + sign, want == NONE ? NONE : want + 1, after("." + (char) sign).fault());
        }
    }

    private static void faultWithinActs() {
        for (int sign = 33; sign <= 126; sign++) {
            boolean deed = "_^/%".indexOf(sign) >= 0;
            boolean begun = sign == 'x' || sign == '~';
            due("deed " + sign, deed ? NONE : begun ? 2 : 1, after("H" + (char) sign).fault());
            due("force " + sign, sign >= '1' && sign <= '9' ? NONE : 1, after("g" + (char) sign).fault());
            boolean letter = sign >= 'A' && sign <= 'H';
            due("other of x " + sign, letter ? NONE : 2, after("Ax" + (char) sign).fault());
            due("other of ~ " + sign, letter ? NONE : 2, after("A~" + (char) sign).fault());
        }
        due("the first fault", 3, after("A_.Z.Z").fault());
        due("more must come", 5, after("A_.Bx").fault());
        due("a sign more heals it", NONE, after("A_.BxA").fault());
        Counted x = after(".".repeat(60));
        due("full", NONE, x.fault());
        due("sixty acts", 60, x.done());
        due("full of letters", 1, after("A".repeat(60)).fault());
    }

    private static void judgeReasons() {
        Counted x = new Counted();
        judged(x, "", NONE, NONE);
        judged(x, "A_", NONE, NONE);
        judged(x, "A_A_", 1, 1);
        judged(x, "A_A^A^A_", 2, 1);
        judged(x, "AxB", 0, 1);
        judged(x, "B_AxBAxB", 2, 1);
        judged(x, "A_AxA", 1, 2);
        judged(x, "A~A", 0, 2);
        judged(x, "A~BB~A", 1, 4);
        judged(x, "A~B", NONE, NONE);
        judged(x, "A%", 0, 5);
        judged(x, "A/A%", NONE, NONE);
        judged(x, "A/A%A%", 2, 5);
        judged(x, "A/A/A/A/A/A/A/A/A/", NONE, NONE);
        judged(x, "A/A/A/A/A/A/A/A/A/B/A/", 10, 5);
        judged(x, "g1g9.", NONE, NONE);
        x.hair(0);
        judged(x, "A/A%", 1, 5);
        x.hair(1);
        judged(x, "A/A/A%A%", 3, 5);
        x.one(1, 1, 0, 3, 0);
        judged(x, "A~B", NONE, NONE);
        judged(x, "A_A~B", 1, 3);
        judged(x, "A_B~A", 1, 3);
        judged(x, "A_B_A~B", 2, 3);
        judged(x, "A_A~C", NONE, NONE);
        passAllDays(x);
        due("the last day", 99, x.told(3));
        judged(x, "A_.", 1, 6);
    }

    private static void judgeLeastReason() {
        Counted x = new Counted();
        judged(x, "AxA", 0, 1);
        x.one(0, 1, 1, 3, 0);
        judged(x, "A~A", 0, 2);
        x.treaty(0, 1, true);
        judged(x, "A~B", 0, 3);
        judged(x, "B~A", 0, 3);
        judged(x, "A^A~B", 1, 4);
        judged(x, "B~AA~A", 0, 3);
    }

    private static void judgeTimes() {
        Counted x = new Counted();
        write(x, "");
        due("nothing", 0, x.judge(2));
        write(x, "B_AxB");
        due("of her nation already", 0, x.judge(2));
        x.one(0, 1, 0, 3, 0);
        due("of another", 1, x.judge(2));
        write(x, "B_AxBB_CxBB_AxB");
        due("to and fro", 3, x.judge(2));
        x.one(1, 2, 1, 3, 0);
        x.one(3, 2, 1, 3, 0);
        x.one(5, 2, 1, 3, 0);
        write(x, ".");
        due("two in a day, one between two nations", 2, x.judge(2));
        write(x, "..");
        due("the second day takes none", 2, x.judge(2));
        write(x, "A_A^C~EC/C%g1g9");
        due("only x and days annex", 0, x.judge(2));
        write(x, ".AxB");
        due("a third by hand", 3, x.judge(2));
    }

    private static void judgeRefusals() {
        Counted x = after("Z");
        for (int wrong : new int[] {-1, 3, LOW, HIGH}) {
            due("judge outside", OUTSIDE, x.judge(wrong));
        }
        for (int what = 0; what < 3; what++) {
            due("judge of a fault", NO, x.judge(what));
        }
        write(x, "A^A");
        for (int what = 0; what < 3; what++) {
            due("judge, more must come", NO, x.judge(what));
        }
        write(x, "A^");
        due("judge(0)", 0, x.judge(0));
        due("judge(1)", 1, x.judge(1));
        due("judge(2)", STATE, x.judge(2));
    }

    private static void behindActs() {
        Counted x = new Counted();
        x.one(0, 2, 0, 5, 1);
        write(x, "A_A/A/H_B/B%");
        due("nation", 2, x.behind(0, 0));
        due("veil", 1, x.behind(0, 1));
        due("tears", 3, x.behind(0, 2));
        due("thick", 2, x.behind(0, 3));
        due("mended", 0, x.behind(1, 2));
        due("thick of one lifted", 0, x.behind(1, 3));
        due("of the last", 1, x.behind(7, 1));
        due("thick of the last", 3, x.behind(7, 3));
        due("nothing is done", 0, x.told(1));
        write(x, "B_AxB");
        due("of the lifter's nation", 2, x.behind(1, 0));
        due("lifted", 0, x.behind(1, 1));
        due("the lifter is as she was", 2, x.behind(0, 0));
        due("the lifter is as she was", 0, x.behind(0, 1));
        write(x, "A_A^");
        due("down and up", 0, x.behind(0, 1));
        x.one(3, 0, 1, 2, 9);
        write(x, "");
        due("no thinner than 0", 0, x.behind(3, 3));
        due("empty pad", 9, x.behind(3, 2));
    }

    private static void behindGusts() {
        Counted x = new Counted();
        for (int i = 0; i < 8; i++) {
            x.one(i, 0, 1, i + 1, 0);
        }
        write(x, "g1");
        due("nothing is thinner", 1, x.behind(0, 1));
        write(x, "g4");
        due("3 is less", 0, x.behind(2, 1));
        due("4 is not", 1, x.behind(3, 1));
        due("her mesh stays", 4, x.behind(3, 3));
        write(x, "D/D/D/D/g1");
        due("torn through", 0, x.behind(3, 1));
        write(x, "D/g4");
        due("a tear is enough", 0, x.behind(3, 1));
        write(x, "D/D%g4");
        due("and a mending", 1, x.behind(3, 1));
        write(x, "g9");
        due("all", 0, x.behind(7, 1));
        x.one(7, 0, 1, 9, 0);
        due("but crape", 1, x.behind(7, 1));
    }

    private static void behindDays() {
        Counted x = new Counted();
        x.one(0, 3, 1, 3, 0);
        x.one(1, 1, 0, 3, 0);
        x.one(7, 1, 0, 3, 0);
        write(x, ".");
        due("round the ring", 1, x.behind(0, 0));
        due("her veil stays", 1, x.behind(0, 1));
        x.one(7, 2, 0, 3, 0);
        due("of two nations", 3, x.behind(0, 0));
        x.one(7, 1, 1, 3, 0);
        due("veil of one beside down", 3, x.behind(0, 0));
        x.one(7, 1, 0, 3, 0);
        x.one(1, 1, 1, 3, 0);
        due("veil of the other down", 3, x.behind(0, 0));
        x.one(1, 1, 0, 3, 0);
        x.one(0, 3, 0, 3, 0);
        due("hers lifted", 3, x.behind(0, 0));
        write(x, "A_.A^");
        due("in time", 1, x.behind(0, 0));
        x.one(6, 2, 0, 3, 0);
        write(x, "H_.");
        due("between two nations", 1, x.behind(7, 0));
        x.one(6, 3, 0, 3, 0);
        due("the last one", 3, x.behind(7, 0));
    }

    private static void refusals(String name, java.util.function.IntUnaryOperator call, Counted x, int most) {
        write(x, "Z");
        due(name + " below", OUTSIDE, call.applyAsInt(-1));
        due(name + " above", OUTSIDE, call.applyAsInt(most + 1));
        due(name + " far below", OUTSIDE, call.applyAsInt(LOW));
        due(name + " far above", OUTSIDE, call.applyAsInt(HIGH));
        for (int what = 0; what <= most; what++) {
            write(x, "Z");
            due(name + " of a fault", NO, call.applyAsInt(what));
            write(x, "A^A");
            due(name + " of a fault first", NO, call.applyAsInt(what));
            write(x, "A^");
            due(name + " of what can not be", STATE, call.applyAsInt(what));
        }
    }

    private static void behindRefusals() {
        Counted x = new Counted();
        refusals("behind", what -> x.behind(7, what), x, 3);
        write(x, "Z");
        for (int wrong : new int[] {-1, 8, LOW, HIGH}) {
            due("behind, who", UNKNOWN, x.behind(wrong, 9));
        }
    }

    private static void states() {
        Counted x = new Counted();
        x.one(0, 1, 0, 3, 0);
        x.one(1, 2, 1, 3, 0);
        x.one(2, 1, 0, 3, 0);
        x.treaty(5, 6, true);
        write(x, "");
        int[] now = {5, 2, 1, 0, 9, 0, 1};
        for (int what = 0; what < 7; what++) {
            due("states now " + what, now[what], x.states(what));
        }
        write(x, ".C/C/C%.D~EC~A");
        int[] then = {5, 3, 0, 0, 8, 2, 3};
        for (int what = 0; what < 7; what++) {
            due("states then " + what, then[what], x.states(what));
        }
        due("nothing is done", 0, x.told(3));
        refusals("states", x::states, x, 6);
    }

    private static void annexed() {
        Counted x = new Counted();
        due("no act", NONE, x.annexed(0));
        due("no one", NONE, x.annexed(1));
        write(x, "A_BxA");
        due("of one nation", NONE, x.annexed(0));
        due("of one nation", NONE, x.annexed(1));
        x.one(1, 1, 0, 3, 0);
        due("act", 1, x.annexed(0));
        due("who", 0, x.annexed(1));
        x.one(3, 1, 1, 3, 0);
        x.one(6, 1, 1, 3, 0);
        write(x, "g1.A_BxA");
        due("act of a day", 1, x.annexed(0));
        due("the least of two", 3, x.annexed(1));
        write(x, "A_BxA.");
        due("the first, not the least", 1, x.annexed(0));
        due("the first, not the least", 0, x.annexed(1));
        refusals("annexed", x::annexed, x, 1);
    }

    private static void done() {
        Counted x = new Counted();
        due("nothing", 0, x.done());
        x.one(2, 1, 0, 4, 0);
        x.seen(3, true);
        write(x, "A_B_C~DCxBA/A/A%.g2");
        due("acts", 9, x.done());
        due("pad", 0, x.told(0));
        due("veils", 1, x.told(1));
        due("hair", 8, x.told(2));
        due("day", 1, x.told(3));
        due("sights stay", 1, x.told(4));
        due("treaty", 8, x.told(12));
        due("treaty", 4, x.told(13));
        due("nation of B", 1, x.told(110));
        due("tears of A", 1, x.told(102));
        due("mesh of C", 4, x.told(121));
        write(x, "A");
        due("fault", NO, x.done());
        due("pad stays", 1, x.told(0));
        write(x, "B_B_");
        due("can not be", STATE, x.done());
        due("pad stays", 4, x.told(0));
        due("nothing is done", 1, x.told(1));
        write(x, "Z.");
        due("fault first", NO, x.done());
    }

    private static void sees() {
        Counted x = new Counted();
        due("all", 254, x.sees(0, 0));
        due("all but herself", 127, x.sees(7, 99));
        x.one(1, 0, 1, 4, 1);
        x.one(7, 0, 1, 9, 0);
        due("neither way", 0, x.sees(0, 2));
        due("one way", 126, x.sees(0, 3));
        due("not yet the other", 126, x.sees(0, 8));
        due("the other", 254, x.sees(0, 9));
        x.one(0, 0, 1, 2, 0);
        due("through her own", 126, x.sees(0, 5));
        due("through her own", 0, x.sees(0, 4));
        due("from elsewhere", 124 - 8, x.sees(3, 2));
        due("to the one behind", 126 - 8, x.sees(3, 3));
        due("and behind her", 127 - 8, x.sees(3, 5));
        for (int wrong : new int[] {-1, 8, LOW, HIGH}) {
            due("who", UNKNOWN, x.sees(wrong, 100));
        }
        for (int wrong : new int[] {-1, 100, LOW, HIGH}) {
            due("eyes", OUTSIDE, x.sees(0, wrong));
        }
        for (int i = 0; i < 8; i++) {
            x.one(i, 0, 1, 9, 0);
        }
        due("crape all round", 130, x.sees(0, 18));
        due("crape all round", 0, x.sees(0, 17));
        due("half the ring", 255 - 1, x.sees(0, 45));
        due("less than half", 255 - 1 - 16, x.sees(0, 44));
    }

    private static void camps() {
        Counted x = new Counted();
        due("no quarrels", 0, x.camps(0));
        due("the least", 1, x.camps(1));
        x.treaty(0, 3, true);
        due("kept within", 0, x.camps(0));
        due("kept within", 9, x.camps(1));
        x.one(3, 1, 0, 3, 0);
        due("a treaty of two nations is no quarrel", 0, x.camps(0));
        due("camp", 9, x.camps(1));
        x.treaty(0, 1, true);
        due("one across, or two foes within", 1, x.camps(0));
        due("the least of several", 9, x.camps(1));
        x.treaty(0, 1, false);
        x.treaty(0, 3, false);
        due("two nations", 0, x.camps(0));
        due("all of hers", 255 - 8, x.camps(1));
        for (int i = 1; i < 8; i++) {
            for (int j = 0; j < i; j++) {
                x.treaty(i, j, true);
            }
        }
        due("all treaties", 0, x.camps(0));
        due("nobody in the other camp", 255, x.camps(1));
        for (int wrong : new int[] {-1, 2, LOW, HIGH}) {
            due("camps outside", OUTSIDE, x.camps(wrong));
        }
    }

    private static void late() {
        Counted x = new Counted();
        due("all late", 6, x.late(0));
        due("none in time", 0, x.late(1));
        x.pay(5, 9, 9);
        due("just in time", 5, x.late(0));
        due("the last", 32, x.late(1));
        x.pay(5, 9, 8);
        due("a minute late", 6, x.late(0));
        x.pay(0, 2, 2);
        x.pay(1, 2, 2);
        due("one of two", 5, x.late(0));
        due("the least", 1, x.late(1));
        x.pay(1, 1, 1);
        x.pay(2, 1, 2);
        due("two shorter ones", 4, x.late(0));
        due("not the first", 6, x.late(1));
        x.pay(3, 9, 99);
        x.pay(4, 9, 99);
        due("long and far", 2, x.late(0));
        due("long and far", 30, x.late(1));
        for (int i = 0; i < 6; i++) {
            x.pay(i, 9, 9 * (6 - i));
        }
        due("all in time, backwards", 0, x.late(0));
        due("all in time, backwards", 63, x.late(1));
        for (int wrong : new int[] {-1, 2, LOW, HIGH}) {
            due("late outside", OUTSIDE, x.late(wrong));
        }
    }

    private static void stamps() {
        Counted x = new Counted();
        due("fewest of 0", 0, x.stamps(5, 6, 7, 0, 0));
        due("ways of 0", 1, x.stamps(5, 6, 7, 0, 1));
        due("fewest, not greedy", 2, x.stamps(1, 15, 20, 30, 0));
        due("the second is better by one", 1, x.stamps(1, 2, 2, 2, 0));
        due("the first is better", 1, x.stamps(2, 1, 1, 2, 0));
        due("not to be paid", NONE, x.stamps(20, 20, 20, 199, 0));
        due("in no way", 0, x.stamps(20, 20, 20, 199, 1));
        due("kinds alike", 66, x.stamps(20, 20, 20, 200, 1));
        due("ways", 4, x.stamps(1, 2, 3, 4, 1));
        due("most", 200, x.stamps(1, 1, 1, 200, 0));
        due("gap", 43, x.stamps(6, 9, 20, 200, 2));
        due("no gap", NONE, x.stamps(1, 20, 20, 7, 2));
        due("no greatest gap", NONE, x.stamps(5, 10, 20, 7, 2));
        due("no greatest gap", NONE, x.stamps(4, 6, 8, 7, 2));
        due("no greatest gap", NONE, x.stamps(19, 19, 19, 7, 2));
        due("alike in twos only", 29, x.stamps(6, 10, 15, 7, 2));
        due("greatest of all", 341, x.stamps(19, 19, 20, 7, 2));
        due("again, other worths", 1, x.stamps(2, 3, 3, 7, 2));
        int[][] outside = {
            {0, 1, 1, 0, 0}, {21, 1, 1, 0, 0}, {1, 0, 1, 0, 0}, {1, 21, 1, 0, 0}, {1, 1, 0, 0, 0}, {1, 1, 21, 0, 0},
            {1, 1, 1, -1, 0}, {1, 1, 1, 201, 0}, {2, 3, 3, -1, 2}, {2, 3, 3, 201, 2}, {1, 1, 1, 0, -1},
            {1, 1, 1, 0, 3}, {LOW, 1, 1, 0, 0}, {1, HIGH, 1, 0, 0}, {1, 1, LOW, 0, 0}, {1, 1, 1, HIGH, 1},
            {1, 1, 1, 0, LOW}};
        for (int[] w : outside) {
            due("stamps outside", OUTSIDE, x.stamps(w[0], w[1], w[2], w[3], w[4]));
        }
    }

    private static void seen() {
        Counted x = new Counted();
        due("first evening", 1, x.seen(0, true));
        due("last evening", 2, x.seen(60, false));
        for (int wrong : new int[] {-1, 61, LOW, HIGH}) {
            due("evening outside", OUTSIDE, x.seen(wrong, true));
        }
        for (int i = 3; i <= 8; i++) {
            due("sight", i, x.seen(60, false));
        }
        due("full", FULL, x.seen(1, true));
        due("outside comes first", OUTSIDE, x.seen(61, true));
        due("sights", 8, x.told(4));
    }

    private static void forget() {
        Counted x = new Counted();
        due("nothing", 0, x.forget());
        x.seen(0, true);
        x.seen(0, false);
        due("two", 2, x.forget());
        due("gone", 0, x.told(4));
        due("all fit again", 112, x.fits(-1));
        x.seen(0, false);
        due("seen anew", 56, x.fits(-1));
        due("none left of the first", 210 + 1, x.fits(0));
    }

    private static void fits() {
        Counted x = new Counted();
        due("all", 112, x.fits(-1));
        due("least", 210, x.fits(0));
        due("second", 211, x.fits(1));
        due("third", 310, x.fits(2));
        due("greatest", 766, x.fits(111));
        for (int wrong : new int[] {112, HIGH, -2, LOW}) {
            due("no such", NONE, x.fits(wrong));
        }
        x.seen(0, true);
        x.seen(1, false);
        x.seen(2, true);
        x.seen(3, false);
        x.seen(4, true);
        due("every other", 1, x.fits(-1));
        due("every other", 210, x.fits(0));
        due("no second", NONE, x.fits(1));
        x.seen(60, false);
        due("nothing fits", 0, x.fits(-1));
        due("nothing fits", NONE, x.fits(0));
        due("nothing fits", NONE, x.fits(-2));
    }

    private static void ask() {
        Counted x = new Counted();
        due("least evening", 0, x.ask(0));
        due("left", 56, x.ask(1));
        x.seen(0, true);
        due("next evening", 26, x.ask(0));
        due("left", 28, x.ask(1));
        for (int wrong : new int[] {-1, 2, LOW, HIGH}) {
            due("ask outside", OUTSIDE, x.ask(wrong));
        }
        x.seen(1, false);
        x.seen(2, true);
        x.seen(3, false);
        x.seen(4, true);
        due("one left: any evening", 0, x.ask(0));
        due("one left", 1, x.ask(1));
        x.seen(4, false);
        due("nothing fits", NONE, x.ask(0));
        due("nothing fits", NONE, x.ask(1));
        x.forget();
        x.seen(9, true);
        x.seen(27, true);
        due("the last evening", 60, x.ask(0));
        due("left", 17, x.ask(1));
        due("outside comes first", OUTSIDE, x.ask(2));
    }

    private static void lift() {
        Counted x = new Counted();
        due("none down", 0, x.lift(0));
        due("none down", NONE, x.lift(1));
        x.one(5, 0, 1, 3, 0);
        due("one down", 1, x.lift(0));
        due("lifted alone", 55, x.lift(1));
        x.one(0, 0, 1, 3, 0);
        due("A's, too", 50, x.lift(1));
        x.one(5, 0, 0, 3, 0);
        due("A's alone", 0, x.lift(1));
        x.one(1, 0, 1, 3, 0);
        due("A's and B's", 10, x.lift(1));
        x.one(0, 0, 0, 3, 0);
        x.one(1, 0, 0, 3, 0);
        x.one(5, 0, 1, 3, 0);
        x.one(2, 0, 1, 3, 0);
        due("both at once", 52, x.lift(1));
        x.one(2, 0, 0, 3, 0);
        x.one(3, 0, 1, 3, 0);
        due("both at once", 53, x.lift(1));
        x.one(2, 0, 1, 3, 0);
        due("that of less number let down", 21, x.lift(1));
        x.one(0, 0, 1, 3, 0);
        due("four down", 0, x.lift(0));
        due("four down", NONE, x.lift(1));
        due("nothing is done", 45, x.told(1));
        for (int wrong : new int[] {-1, 2, LOW, HIGH}) {
            due("lift outside", OUTSIDE, x.lift(wrong));
        }
    }

    private static void votes() {
        Counted x = new Counted();
        due("ahead", 1, x.votes(2, 1, 0, 0));
        due("ahead", 3, x.votes(2, 1, 0, 1));
        due("lowest terms", 1, x.votes(6, 2, 0, 0));
        due("lowest terms", 2, x.votes(6, 2, 0, 1));
        due("lowest terms", 1, x.votes(4, 2, 0, 0));
        due("lowest terms", 3, x.votes(4, 2, 0, 1));
        due("never behind", 3, x.votes(4, 2, 1, 0));
        due("never behind", 5, x.votes(4, 2, 1, 1));
        due("a tie is not behind", 1, x.votes(1, 1, 1, 0));
        due("a tie is not behind", 2, x.votes(1, 1, 1, 1));
        due("a tie is not ahead", 0, x.votes(3, 3, 0, 0));
        due("naught by one", 1, x.votes(3, 3, 0, 1));
        due("naught by one", 0, x.votes(2, 9, 1, 0));
        due("naught by one", 1, x.votes(2, 9, 1, 1));
        for (int k = 0; k < 4; k++) {
            due("no vote", 1, x.votes(0, 0, k / 2, k % 2));
            due("none against", 1, x.votes(20, 0, k / 2, k % 2));
        }
        int[][] outside = {
            {-1, 0, 0, 0}, {21, 0, 0, 0}, {0, -1, 0, 0}, {0, 21, 0, 0}, {0, 0, -1, 0}, {0, 0, 2, 0}, {0, 0, 0, -1},
            {0, 0, 0, 2}, {LOW, 0, 0, 0}, {0, HIGH, 0, 0}, {0, 0, LOW, 0}, {0, 0, 0, HIGH}};
        for (int[] w : outside) {
            due("votes outside", GONE + OUTSIDE, x.votes(w[0], w[1], w[2], w[3]));
        }
    }

    private static void lives(Counted x, String draw, int seed, int m, int people, int veils, int treaties) {
        due("nation 0: " + draw, people, x.year(seed, m, 0));
        due("veils: " + draw, veils, x.year(seed, m, 1));
        due("treaties: " + draw, treaties, x.year(seed, m, 2));
    }

    // x behind a seed is 75 times the seed and 74: 5 gives 449, 0 gives 74, and so on.
    private static void year() {
        Counted x = new Counted();
        lives(x, "449: B lets hers down", 5, 1, 8, 1, 0);
        lives(x, "74: C lets hers down", 0, 1, 8, 1, 0);
        lives(x, "149: F can not lift hers", 1, 1, 8, 0, 0);
        lives(x, "224: A and D kiss", 2, 1, 8, 0, 1);
        lives(x, "674: C and C can not", 8, 1, 8, 0, 0);
        lives(x, "1049: B can not lift A's", 13, 1, 8, 0, 0);
        x.one(5, 0, 1, 3, 0);
        lives(x, "149: F lifts hers", 1, 1, 8, 0, 0);
        x.one(5, 0, 0, 3, 0);
        x.one(0, 0, 1, 5, 0);
        x.one(1, 1, 1, 6, 0);
        lives(x, "1049: B lifts A's", 13, 1, 6, 1, 0);
        lives(x, "12824: A can not lift A's", 170, 1, 7, 2, 0);
        lives(x, "374: a gust of 6", 4, 1, 7, 1, 0);
        lives(x, "6899: a gust of 9", 91, 1, 7, 0, 0);
        lives(x, "12149: a gust of 1", 161, 1, 7, 2, 0);
        x.one(0, 0, 0, 5, 0);
        lives(x, "824: a day, B is between A and C", 10, 1, 8, 1, 0);
        lives(x, "74, 5624: C lets hers down, and a day", 0, 2, 7, 2, 0);
        x.one(1, 0, 0, 6, 0);
        passAllDays(x);
        x.one(1, 1, 1, 6, 0);
        lives(x, "824: no day behind the last", 10, 1, 7, 1, 0);
        due("nothing is done", 2, x.told(1));
        due("nothing is done", 99, x.told(3));
        yearOfTears();
        yearRefusals();
    }

    private static void yearOfTears() {
        Counted x = new Counted();
        x.one(3, 1, 1, 2, 0);
        lives(x, "299: D's veil is torn", 3, 1, 7, 1, 0);
        lives(x, "22499: D, of another nation, can not kiss H", 3, 2, 7, 1, 0);
        lives(x, "49074: a gust of 2 lifts what is torn to 1", 3, 3, 7, 0, 0);
        x.one(3, 0, 1, 3, 0);
        lives(x, "D and H, of one nation, kiss; torn to 2 hers stays", 3, 3, 8, 1, 1);
        x.one(3, 0, 1, 9, 9);
        lives(x, "no tear more than 9", 3, 1, 8, 1, 0);
        due("nothing is done", 9, x.told(132));
        Counted unveiled = new Counted();
        lives(unveiled, "the longest year of the last seed", 9999, 99, 8, 0, 7);
        lives(unveiled, "less of it", 9999, 64, 8, 0, 5);
        lives(unveiled, "of another seed", 4321, 99, 8, 4, 10);
        lives(unveiled, "65549 goes round to 12: E lets hers down", 873, 1, 8, 1, 0);
    }

    private static void yearRefusals() {
        Counted x = new Counted();
        int[][] outside = {
            {-1, 1, 0}, {10000, 1, 0}, {0, 0, 0}, {0, 100, 0}, {0, 1, -1}, {0, 1, 3}, {LOW, 1, 0}, {0, HIGH, 0},
            {0, 1, LOW}};
        for (int[] w : outside) {
            due("year outside", OUTSIDE, x.year(w[0], w[1], w[2]));
        }
    }

    private static void image() {
        Counted x = new Counted();
        x.one(1, 2, 1, 5, 6);
        x.pay(3, 4, 5);
        x.treaty(0, 1, true);
        due("first", 1, x.image(0));
        x.hair(3);
        x.seen(1, true);
        due("second", 1, x.image(1));
        for (int wrong : new int[] {-1, 2, LOW, HIGH}) {
            due("image outside", OUTSIDE, x.image(wrong));
        }
        x.one(1, 0, 0, 1, 0);
        x.hair(50);
        due("the first", 1, x.restore(0));
        due("hair", 9, x.told(2));
        due("sights", 0, x.told(4));
        due("nation", 2, x.told(110));
        due("the second", 1, x.restore(1));
        due("hair", 3, x.told(2));
        due("sights", 1, x.told(4));
        x.hair(77);
        due("kept anew", 1, x.image(1));
        x.hair(1);
        x.restore(1);
        due("hair", 77, x.told(2));
    }

    private static void restore() {
        Counted x = new Counted();
        due("none kept", STATE, x.restore(0));
        for (int wrong : new int[] {-1, 2, LOW, HIGH}) {
            due("restore outside", OUTSIDE, x.restore(wrong));
        }
        write(x, "...");
        x.done();
        x.one(6, 3, 1, 7, 2);
        x.treaty(2, 5, true);
        x.hair(12);
        x.pay(4, 6, 60);
        x.seen(2, true);
        x.seen(3, false);
        write(x, "A_");
        x.image(1);
        due("the other is not kept", STATE, x.restore(0));
        x.one(6, 0, 0, 1, 0);
        x.treaty(2, 5, false);
        x.hair(0);
        x.pay(4, 1, 0);
        x.forget();
        x.seen(9, true);
        write(x, ".B_B/");
        x.done();
        write(x, "C_D");
        due("restore", 1, x.restore(1));
        due("pad stays", 3, x.told(0));
        due("veils", 64, x.told(1));
        due("hair", 12, x.told(2));
        due("day", 3, x.told(3));
        due("sights", 2, x.told(4));
        due("fits", 21, x.fits(-1));
        due("friends", 32, x.told(12));
        due("friends", 4, x.told(15));
        due("minutes", 6, x.told(24));
        due("due", 60, x.told(34));
        due("nation", 3, x.told(160));
        due("mesh", 7, x.told(161));
        due("tears", 2, x.told(162));
        due("tears of B", 0, x.told(112));
        x.hair(99);
        due("again", 1, x.restore(1));
        due("hair", 12, x.told(2));
    }

    private static void told() {
        Counted x = new Counted();
        x.one(7, 3, 1, 9, 8);
        x.one(0, 1, 1, 2, 4);
        x.treaty(0, 7, true);
        x.pay(5, 8, 88);
        x.say('A');
        x.seen(5, false);
        due("signs", 1, x.told(0));
        due("veils", 129, x.told(1));
        due("hair", 9, x.told(2));
        due("day", 0, x.told(3));
        due("sights", 1, x.told(4));
        due("friends of A", 128, x.told(10));
        due("friends of H", 1, x.told(17));
        due("minutes", 8, x.told(25));
        due("due", 88, x.told(35));
        due("nation", 1, x.told(100));
        due("mesh", 2, x.told(101));
        due("tears", 4, x.told(102));
        due("nation", 3, x.told(170));
        due("mesh", 9, x.told(171));
        due("tears", 8, x.told(172));
        for (int what = -10; what < 300; what++) {
            boolean is = what >= 0 && what <= 4 || what >= 10 && what <= 17 || what >= 20 && what <= 25
                    || what >= 30 && what <= 35 || what >= 100 && what < 180 && what % 10 <= 2;
            if (!is) {
                due("told " + what, OUTSIDE, x.told(what));
            }
        }
        due("told far below", OUTSIDE, x.told(LOW));
        due("told far above", OUTSIDE, x.told(HIGH));
    }
}
