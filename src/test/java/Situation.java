/** States in which calls are tried; each is made by calls that are known to be answered. */
enum Situation {
    /** As it was made: no sight, no veil down, no treaty, no image, nothing on the pad. */
    NEW {
        @Override
        void make(Women w) {
        }
    },
    /** The least of all numbers, and no hair. */
    LEAST {
        @Override
        void make(Women w) {
            for (int one = 0; one < 8; one++) {
                w.one(one, 0, 0, 1, 0);
            }
            w.hair(0);
            w.image(0);
        }
    },
    /** Something of everything, and a text that can be; only the second image is kept. */
    SOME {
        @Override
        void make(Women w) {
            makeSome(w);
            write(w, "A_BxA.C~D");
        }
    },
    /** The same with a text of which an act can not be. */
    IMPOSSIBLE {
        @Override
        void make(Women w) {
            makeSome(w);
            write(w, "A_A_");
        }
    },
    /** The same with a text in which a sign can not stand where it is. */
    FAULTY {
        @Override
        void make(Women w) {
            makeSome(w);
            write(w, "A_A_.Z");
        }
    },
    /** The same with a text of which more must come. */
    UNFINISHED {
        @Override
        void make(Women w) {
            makeSome(w);
            write(w, "A_g");
        }
    },
    /** The greatest of all numbers, 60 signs, 8 sights, day 99, all veils down, all treaties kept, both images kept. */
    FULL {
        @Override
        void make(Women w) {
            write(w, ".".repeat(60));
            w.done();
            write(w, ".".repeat(39));
            w.done();
            for (int one = 0; one < 8; one++) {
                w.one(one, 3, 1, 9, 9);
                for (int other = 0; other < one; other++) {
                    w.treaty(one, other, true);
                }
            }
            for (int call = 0; call < 6; call++) {
                w.pay(call, 9, 99);
            }
            w.hair(99);
            for (int i = 0; i < 8; i++) {
                w.seen(60, true);
            }
            w.image(0);
            w.image(1);
            write(w, "H^H_".repeat(15));
        }
    };

    abstract void make(Women w);

    /** What a call that reads the text is refused with, or 0. */
    int refusalOfText() {
        switch (this) {
            case IMPOSSIBLE:
                return VeilNations.STATE;
            case FAULTY:
            case UNFINISHED:
                return VeilNations.NO;
            default:
                return 0;
        }
    }

    boolean isImageKept(int k) {
        return this == FULL || this != NEW && k == (this == LEAST ? 0 : 1);
    }

    private static void write(Women w, String text) {
        for (int i = 0; i < text.length(); i++) {
            w.say(text.charAt(i));
        }
    }

    private static void makeSome(Women w) {
        w.one(2, 1, 1, 5, 3);
        w.one(3, 2, 1, 8, 0);
        w.hair(44);
        w.pay(1, 3, 8);
        w.seen(5, true);
        w.image(1);
        for (int one = 0; one < 8; one += 2) {
            w.one(one, (one + 3) % 4, one / 2 % 2, one + 1, 8 - one);
        }
        w.one(1, 3, 0, 4, 1);
        w.one(7, 3, 0, 4, 2);
        w.treaty(0, 3, true);
        w.treaty(6, 5, true);
        w.hair(17);
        w.pay(0, 3, 3);
        w.pay(5, 4, 9);
        w.seen(7, false);
        w.seen(60, true);
        write(w, ".");
        w.done();
    }
}
