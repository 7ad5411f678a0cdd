/** An object of the class, as far as the document promises it: a test that calls one more than 512 times is wrong. */
final class Counted implements Women {
    private static final int CALLS = 512;

    private final VeilNations women = new VeilNations();
    private int calls = 0;

    /** How many calls it may be asked yet. */
    int left() {
        return CALLS - calls;
    }

    private VeilNations asked() {
        calls++;
        if (calls == CALLS + 1) {
            Checks.wrong("the test calls one object more than " + CALLS + " times");
        }
        return women;
    }

    @Override
    public int one(int one, int nation, int down, int mesh, int tears) {
        return asked().one(one, nation, down, mesh, tears);
    }

    @Override
    public int treaty(int one, int other, boolean is) {
        return asked().treaty(one, other, is);
    }

    @Override
    public int hair(int v) {
        return asked().hair(v);
    }

    @Override
    public int pay(int call, int minutes, int due) {
        return asked().pay(call, minutes, due);
    }

    @Override
    public int say(int sign) {
        return asked().say(sign);
    }

    @Override
    public int wipe() {
        return asked().wipe();
    }

    @Override
    public int fault() {
        return asked().fault();
    }

    @Override
    public int judge(int what) {
        return asked().judge(what);
    }

    @Override
    public int behind(int one, int what) {
        return asked().behind(one, what);
    }

    @Override
    public int states(int what) {
        return asked().states(what);
    }

    @Override
    public int annexed(int what) {
        return asked().annexed(what);
    }

    @Override
    public int done() {
        return asked().done();
    }

    @Override
    public int sees(int one, int e) {
        return asked().sees(one, e);
    }

    @Override
    public int camps(int what) {
        return asked().camps(what);
    }

    @Override
    public int late(int what) {
        return asked().late(what);
    }

    @Override
    public int stamps(int a, int b, int c, int n, int what) {
        return asked().stamps(a, b, c, n, what);
    }

    @Override
    public int seen(int evening, boolean down) {
        return asked().seen(evening, down);
    }

    @Override
    public int forget() {
        return asked().forget();
    }

    @Override
    public int fits(int i) {
        return asked().fits(i);
    }

    @Override
    public int ask(int what) {
        return asked().ask(what);
    }

    @Override
    public int lift(int what) {
        return asked().lift(what);
    }

    @Override
    public long votes(int a, int b, int what, int part) {
        return asked().votes(a, b, what, part);
    }

    @Override
    public int year(int seed, int m, int what) {
        return asked().year(seed, m, what);
    }

    @Override
    public int image(int k) {
        return asked().image(k);
    }

    @Override
    public int restore(int k) {
        return asked().restore(k);
    }

    @Override
    public int told(int what) {
        return asked().told(what);
    }
}
