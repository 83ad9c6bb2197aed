/** Promises 1, 4 to 12 and 33: what a party is made of, and what is told of it. */
public final class SetupTest {
    private static final Due DUE = new Due("SetupTest");

    public static void main(String[] args) {
        newObject();
        chairs();
        walkers();
        traits();
        players();
        formsAndSeeds();
        telling();
        hastes();
        counts();
        DUE.end();
    }

    private static void newObject() {
        ChairTooFew x = new ChairTooFew();
        DUE.is("1: N", x.count(0), 24);
        for (int what = 1; what <= 8; what++) DUE.is("1: count " + what, x.count(what), 0);
        for (int what = 11; what <= 16; what++) DUE.is("1: count " + what, x.count(what), 0);
        for (int place = 0; place < 24; place++) DUE.is("1: has " + place, x.has(place), 0);
        DUE.is("1: no walker", x.of(0, 0), -1);
        DUE.is("1: FORM at first", x.form(1), 0);
        DUE.is("1: z at first", x.seed(7), 1);
        x.row(10);
        DUE.is("1: FIGURE 10 at first, LONG and TOLD fit", x.could(), 1 + 4 + 8 + 16);
        x.row(9);
        DUE.is("1: FIGURE 10 at first, 9 is too soon", x.could(), 1 + 8);
        DUE.is("1: EVEN at first", x.player(2, 3), 0);
        ChairTooFew other = new ChairTooFew();
        DUE.is("1: another object has its own", other.seed(1), 1);
    }

    private static void chairs() {
        ChairTooFew x = new ChairTooFew();
        DUE.is("4: least", x.chair(0), 1);
        DUE.is("4: greatest", x.chair(23), 2);
        DUE.is("4: none there", x.chair(24), -1);
        DUE.is("4: below", x.chair(-1), -1);
        DUE.is("4: far below", x.chair(Integer.MIN_VALUE), -1);
        DUE.is("4: far above", x.chair(Integer.MAX_VALUE), -1);
        DUE.is("4: has one", x.chair(23), -3);
        for (int place = 1; place < 10; place++) DUE.is("4: more", x.chair(place), place + 2);
        DUE.is("4: no room", x.chair(15), -6);
        DUE.is("4: has one, ahead of no room", x.chair(5), -3);
        DUE.is("4: no place, ahead of no room", x.chair(24), -1);
        DUE.is("4: how many stay", x.count(1), 11);
        DUE.is("4: refusals -1", x.count(11), 5);
        DUE.is("4: refusals -3", x.count(13), 2);
        DUE.is("4: refusals -6", x.count(16), 1);
    }

    private static void walkers() {
        ChairTooFew x = new ChairTooFew();
        DUE.is("5: first", x.walker(0, 0, 1), 0);
        DUE.is("5: second", x.walker(23, 6, 99), 1);
        DUE.is("5: SLOW 1 at least", x.of(0, 5), 1);
        DUE.is("5: SLOW cut", x.of(1, 5), 49);
        DUE.is("5: FAST", x.of(1, 4), 99);
        DUE.is("5: KIND", x.of(1, 3), 6);
        DUE.is("5: IN", x.of(1, 2), 1);
        DUE.is("5: parts", x.of(1, 1), 0);
        DUE.is("5: PLACE", x.of(1, 0), 23);
        DUE.is("5: REACH", x.set(1, 2, 9), 9);
        DUE.is("5: SIZE", x.set(1, 3, 5), 5);
        DUE.is("5: MANNERS", x.set(1, 4, 5), 5);
        DUE.is("5: no PLACE, ahead of FAST", x.walker(24, 0, 0), -1);
        DUE.is("5: no PLACE below", x.walker(-1, 0, 5), -1);
        DUE.is("5: no KIND", x.walker(5, 7, 5), -1);
        DUE.is("5: no KIND, ahead of FAST", x.walker(5, -1, 100), -1);
        DUE.is("5: FAST below", x.walker(5, 0, 0), -4);
        DUE.is("5: FAST above", x.walker(5, 0, 100), -6);
        DUE.is("5: FAST below, ahead of -3", x.walker(0, 0, -5), -4);
        DUE.is("5: FAST above, ahead of -3", x.walker(0, 0, 100), -6);
        DUE.is("5: one is there", x.walker(0, 0, 5), -3);
        for (int place = 1; place <= 10; place++) DUE.is("5: more", x.walker(place, 0, 50), place + 1);
        DUE.is("5: no room", x.walker(15, 0, 50), -6);
        DUE.is("5: no room, ahead of -3", x.walker(0, 0, 50), -6);
        DUE.is("5: FAST below, ahead of no room", x.walker(15, 0, 0), -4);
        DUE.is("5: how many", x.count(2), 12);

        ChairTooFew y = new ChairTooFew();
        y.chair(0);
        y.walker(0, 0, 50);
        y.walker(12, 0, 50);
        y.walker(6, 0, 50);
        DUE.is("5: one goes", y.stop(), 1);
        DUE.is("5: who went stands in nobody's way", y.walker(12, 1, 50), 3);
        DUE.is("5: who went keeps the number", y.of(1, 2), 0);

        ChairTooFew z = new ChairTooFew();
        z.chair(20);
        z.player(4, 99);
        z.walker(3, 0, 50);
        z.walker(9, 0, 50);
        z.go(2);
        DUE.is("5: one came there", z.walker(4, 0, 50), -3);
        DUE.is("5: one left it", z.walker(3, 0, 50), 2);
        DUE.is("13: behind one that goes on", z.go(3) * 1000 + z.of(2, 0) * 100 + z.of(2, 1), 450);
    }

    private static void traits() {
        ChairTooFew x = new ChairTooFew();
        x.walker(3, 4, 50);
        int[] old = {50, 25, 9, 5, 5, 4};
        int[] least = {1, 1, 0, 0, 0, 0};
        int[] most = {99, 99, 9, 9, 9, 6};
        for (int what = 0; what < 6; what++) {
            DUE.is("6: was " + what, x.set(0, what, most[what]), old[what]);
            DUE.is("6: greatest " + what, x.set(0, what, least[what]), most[what]);
            DUE.is("6: above " + what, x.set(0, what, most[what] + 1), -6);
            DUE.is("6: below " + what, x.set(0, what, least[what] - 1), -4);
            DUE.is("6: stayed " + what, x.set(0, what, old[what]), least[what]);
        }
        DUE.is("6: no WALKER, ahead of what", x.set(1, 6, 0), -1);
        DUE.is("6: no WALKER below", x.set(-1, 0, 5), -1);
        DUE.is("6: what above, ahead of v", x.set(0, 6, -1), -2);
        DUE.is("6: what below", x.set(0, -1, 5), -2);
        DUE.is("6: FAST leaves SLOW", x.set(0, 0, 80), 50);
        DUE.is("6: SLOW is as it was", x.of(0, 5), 25);
        DUE.is("6: KIND is told", x.of(0, 3), 4);
    }

    private static void players() {
        ChairTooFew x = new ChairTooFew();
        DUE.is("7: EVEN ahead", x.player(4, 99), 0);
        DUE.is("7: TOLD ahead", x.player(3, 1), 4);
        DUE.is("7: LIKING ahead", x.player(2, 1), 3);
        DUE.is("7: LONG ahead", x.player(1, 1), 2);
        DUE.is("7: PHRASE ahead", x.player(1, 40), 1);
        DUE.is("7: no KIND, ahead of FIGURE", x.player(5, 0), -1);
        DUE.is("7: no KIND below", x.player(-1, 100), -1);
        DUE.is("7: FIGURE below", x.player(0, 0), -4);
        DUE.is("7: FIGURE above", x.player(0, 100), -6);
        DUE.is("7: it stayed", x.player(0, 10), 1);
    }

    private static void formsAndSeeds() {
        ChairTooFew x = new ChairTooFew();
        DUE.is("8: FORM ahead", x.form(2), 0);
        DUE.is("8: FORM ahead", x.form(1), 2);
        DUE.is("8: below", x.form(-1), -4);
        DUE.is("8: above", x.form(3), -6);
        DUE.is("8: it stayed", x.form(0), 1);
        DUE.is("9: at first", x.seed(Integer.MIN_VALUE), 1);
        DUE.is("9: as it is", x.seed(-1), Integer.MIN_VALUE);
        DUE.is("9: no refusal of a z below 0", x.seed(-9), -1);
        DUE.is("9: nothing counted", x.count(11), 0);
        x.chair(0);
        x.walker(0, 0, 50);
        x.walker(1, 0, 50);
        x.seed(1);
        x.player(4, 99);
        x.go(1);
        DUE.is("9: one draw a TENTH", x.seed(1), 1103527590);
        x.go(2);
        DUE.is("9: two draws", x.seed(1), 1103527590 * 1103515245 + 12345);
    }

    private static void telling() {
        ChairTooFew x = new ChairTooFew();
        x.walker(7, 3, 61);
        int[] due = {7, 0, 1, 3, 61, 30};
        for (int what = 0; what < 6; what++) DUE.is("10: " + what, x.of(0, what), due[what]);
        DUE.is("10: other what", x.of(0, 6), -2);
        DUE.is("10: what below", x.of(0, -1), -2);
        DUE.is("10: nobody, ahead of what", x.of(1, 9), -1);
        DUE.is("10: nobody below", x.of(-1, 0), -1);
        x.chair(9);
        DUE.is("11: has one", x.has(9), 1);
        DUE.is("11: has none", x.has(7), 0);
        DUE.is("11: last", x.has(23), 0);
        DUE.is("11: no place", x.has(24), -1);
        DUE.is("11: no place below", x.has(-1), -1);
    }

    private static void hastes() {
        ChairTooFew x = new ChairTooFew();
        x.walker(0, 0, 50);
        x.set(0, 3, 5);
        x.set(0, 4, 7);
        // FAR 7: 14 tenths; FAR 2 the other way round: 4 tenths, less than SIZE.
        int[] far7 = {14, 9, 19, 7, 28, 4, 26};
        int[] far2 = {4, 0, 9, 0, 8, 0, 16};
        int[] far0 = {0, 0, 5, 0, 0, 0, 12};
        for (int kind = 0; kind < 7; kind++) {
            x.set(0, 5, kind);
            DUE.is("12: FAR 7, KIND " + kind, x.haste(0, 7), far7[kind]);
            DUE.is("12: FAR 7 back, KIND " + kind, x.haste(0, 17), far7[kind]);
            DUE.is("12: FAR 2, KIND " + kind, x.haste(0, 22), far2[kind]);
            DUE.is("12: FAR 0, KIND " + kind, x.haste(0, 0), far0[kind]);
        }
        x.set(0, 5, 0);
        DUE.is("12: half way round", x.haste(0, 12), 24);
        DUE.is("12: a step more is one less", x.haste(0, 13), 22);
        x.set(0, 0, 33);
        DUE.is("12: cut", x.haste(0, 1), 3);
        x.set(0, 0, 99);
        DUE.is("12: cut at 99", x.haste(0, 12), 12);
        x.set(0, 2, 0);
        DUE.is("12: REACH does not matter", x.haste(0, 12), 12);
        DUE.is("12: no place", x.haste(0, 24), -1);
        DUE.is("12: no place below", x.haste(0, -1), -1);
        DUE.is("12: nobody", x.haste(1, 0), -1);
        DUE.is("12: nobody below", x.haste(-1, 0), -1);
    }

    private static void counts() {
        ChairTooFew x = new ChairTooFew();
        x.chair(0);
        x.chair(12);
        x.walker(0, 0, 50);
        x.walker(12, 0, 50);
        x.walker(6, 0, 50);
        x.player(4, 50);
        DUE.is("33: goes by", x.go(3), 0);
        x.row(5);
        x.row(6);
        x.film(1);
        x.feed(4, 0);
        DUE.is("33: CHAIRS", x.count(1), 2);
        DUE.is("33: WALKERS", x.count(2), 3);
        DUE.is("33: IN", x.count(3), 3);
        DUE.is("33: TENTHS", x.count(4), 3);
        DUE.is("33: ROUNDS", x.count(5), 0);
        DUE.is("33: ROW", x.count(6), 2);
        DUE.is("33: FILM", x.count(7), 1);
        DUE.is("33: TEXT", x.count(8), 4);
        x.stop();
        DUE.is("33: CHAIRS behind a stop", x.count(1), 1);
        DUE.is("33: WALKERS behind a stop", x.count(2), 3);
        DUE.is("33: IN behind a stop", x.count(3), 2);
        DUE.is("33: TENTHS behind a stop", x.count(4), 0);
        DUE.is("33: ROUNDS behind a stop", x.count(5), 1);
        DUE.is("33: another", x.count(9), -9);
        DUE.is("33: another", x.count(10), -9);
        DUE.is("33: another", x.count(17), -9);
        DUE.is("33: another", x.count(-1), -9);
        DUE.is("33: another", x.count(Integer.MIN_VALUE), -9);
        x.has(99);
        x.of(0, 99);
        x.of(0, 98);
        x.restore();
        x.form(-1);
        x.form(3);
        int[] refused = {1, 2, 1, 1, 0, 1};
        for (int i = 0; i < 6; i++) DUE.is("33: REFUSALS " + (-1 - i), x.count(11 + i), refused[i]);
    }
}
