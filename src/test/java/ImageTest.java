/** Promises 31 and 32: the image and its return. */
public final class ImageTest {
    private static final Due DUE = new Due("ImageTest");

    public static void main(String[] args) {
        none();
        all();
        what();
        ended();
        DUE.end();
    }

    private static void none() {
        ChairTooFew x = new ChairTooFew();
        DUE.is("32: there is none", x.restore(), -3);
        DUE.is("32: REFUSALS", x.count(13), 1);
        x.chair(3);
        x.walker(1, 0, 5);
        DUE.is("32: nothing changed", x.count(1) + x.count(2), 2);
        ChairTooFew y = new ChairTooFew();
        DUE.is("31: of nobody", y.image(), 0);
        y.chair(3);
        y.walker(3, 0, 9);
        DUE.is("32: back to nobody", y.restore(), 0);
        DUE.is("32: no WALKER", y.of(0, 0), -1);
        DUE.is("32: no CHAIR", y.has(3) + y.count(1), 0);
        DUE.is("32: anew", y.walker(3, 0, 9), 0);
    }

    private static ChairTooFew party() {
        ChairTooFew x = new ChairTooFew();
        long n20 = 'n' | '2' << 8 | '0' << 16 | (long) ';' << 24;
        x.feed(4, n20);
        DUE.is("3: n20", x.party(), 1);
        x.chair(4);
        x.chair(15);
        x.walker(1, 6, 77);
        x.walker(8, 3, 33);
        x.walker(18, 1, 54);
        x.set(0, 1, 12);
        x.set(0, 2, 7);
        x.set(0, 3, 2);
        x.set(0, 4, 8);
        x.player(4, 9);
        x.form(1);
        x.seed(-123);
        x.go(3);
        return x;
    }

    private static void all() {
        ChairTooFew x = party();
        int[] of = new int[18];
        for (int i = 0; i < 18; i++) of[i] = x.of(i / 6, i % 6);
        int z = x.seed(0);
        x.seed(z);
        DUE.is("31: how many WALKERS", x.image(), 3);
        x.go(300);
        x.stop();
        x.chair(11);
        x.walker(11, 0, 9);
        for (int w = 0; w < 4; w++) {
            for (int what = 0; what < 6; what++) x.set(w, what, 3);
        }
        x.player(1, 50);
        x.form(2);
        x.seed(4);
        DUE.is("32: how many WALKERS", x.restore(), 3);
        for (int i = 0; i < 18; i++) DUE.is("32: of " + i / 6 + ", " + i % 6, x.of(i / 6, i % 6), of[i]);
        DUE.is("32: nobody more", x.of(3, 0), -1);
        DUE.is("32: REACH", x.set(0, 2, 7), 7);
        DUE.is("32: SIZE", x.set(0, 3, 2), 2);
        DUE.is("32: MANNERS", x.set(0, 4, 8), 8);
        DUE.is("32: N", x.count(0), 20);
        DUE.is("32: CHAIRS", x.count(1), 2);
        DUE.is("32: at 4", x.has(4), 1);
        DUE.is("32: at 15", x.has(15), 1);
        DUE.is("32: at 11", x.has(11), 0);
        DUE.is("32: TENTHS", x.count(4), 3);
        DUE.is("32: ROUNDS", x.count(5), 0);
        DUE.is("32: z", x.seed(z), z);
        DUE.is("32: FORM", x.form(1), 1);
        DUE.is("32: FIGURE: not yet", x.go(5), 0);
        DUE.is("32: FIGURE", x.go(1), 1);
        DUE.is("32: KIND", x.player(0, 9), 4);
        DUE.is("32: again", x.restore(), 3);
        DUE.is("32: as it was", x.count(5) * 10 + x.count(4), 3);
    }

    private static void what() {
        ChairTooFew x = party();
        x.feed(3, 5);
        x.row(8);
        x.film(1);
        x.film(2);
        x.image();
        x.feed(4, 5);
        x.row(9);
        x.film(3);
        x.has(-1);
        x.restore();
        DUE.is("32: the TEXT stays", x.count(8), 7);
        DUE.is("32: the ROW stays", x.count(6), 2);
        DUE.is("32: the FILM stays", x.count(7), 3);
        DUE.is("32: REFUSALS stay", x.count(11), 1);
        x.chair(0);
        x.stop();
        DUE.is("31: the newest, with who is not IN", x.image(), 3);
        x.chair(1);
        x.restore();
        DUE.is("32: the newest", x.count(1), 2);
        DUE.is("32: who is IN", x.count(3), 2);
    }

    private static void ended() {
        ChairTooFew x = new ChairTooFew();
        x.player(4, 1);
        x.chair(0);
        x.chair(12);
        x.walker(0, 0, 50);
        x.walker(12, 0, 50);
        x.image();
        DUE.is("13: all sit", x.go(1), 2);
        DUE.is("13: ENDED", x.go(1), -3);
        x.restore();
        DUE.is("32: goes on", x.go(1), 2);
        x.image();
        x.chair(6);
        DUE.is("13: goes on", x.go(1), 2);
        x.chair(7);
        x.restore();
        DUE.is("32: ENDED", x.go(1), -3);
    }
}
