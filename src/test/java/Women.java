/** The methods of the document, so that the class and its twin can be asked alike. */
interface Women {
    int one(int one, int nation, int down, int mesh, int tears);

    int treaty(int one, int other, boolean is);

    int hair(int v);

    int pay(int call, int minutes, int due);

    int say(int sign);

    int wipe();

    int fault();

    int judge(int what);

    int behind(int one, int what);

    int states(int what);

    int annexed(int what);

    int done();

    int sees(int one, int e);

    int camps(int what);

    int late(int what);

    int stamps(int a, int b, int c, int n, int what);

    int seen(int evening, boolean down);

    int forget();

    int fits(int i);

    int ask(int what);

    int lift(int what);

    long votes(int a, int b, int what, int part);

    int year(int seed, int m, int what);

    int image(int k);

    int restore(int k);

    int told(int what);
}
