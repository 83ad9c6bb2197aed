/**
 * Every refusal that the document names, by promise: it answers its number, comes in the told
 * order, and changes nothing but how many there were. On the other side of each edge: no refusal.
 */
public final class RefusalTest {
    private static final Due DUE = new Due("RefusalTest");
    private static final int LEAST = Integer.MIN_VALUE;
    private static final int MOST = Integer.MAX_VALUE;
    // Who is not IN in the party of busy().
    private static final int GONE = 3;

    private interface Asked { int with(ChairTooFew x, int n); }

    public static void main(String[] args) {
        makers();
        feed();
        party();
        chair();
        walker();
        walkerRoom();
        set();
        player();
        form();
        seed();
        of();
        has();
        haste();
        go();
        stop();
        sits();
        would();
        odds();
        fair();
        bestSlow();
        cheat();
        lasts();
        wins();
        fairest();
        shortest();
        row();
        could();
        next();
        team();
        film();
        judge();
        imageAndRestore();
        count();
        DUE.end();
    }

    /** In the midst of a second ROUND: three IN, one not, a ROW, a FILM, a TEXT, an image that is another. */
    private static ChairTooFew busy() {
        ChairTooFew x = new ChairTooFew();
        x.chair(0);
        x.chair(7);
        x.chair(16);
        x.walker(3, 0, 90);
        x.walker(4, 1, 70);
        x.walker(11, 2, 40);
        x.walker(20, 6, 55);
        for (int w = 0; w < 4; w++) {
            x.set(w, 2, 3);
            x.set(w, 3, 8 - w);
            x.set(w, 4, 4 + w);
        }
        x.stop();
        x.player(4, 60);
        x.seed(99);
        x.go(4);
        x.image();
        x.form(2);
        x.seed(-7);
        x.go(3);
        x.chair(21);
        x.row(8);
        x.row(9);
        x.film(5);
        x.film(6);
        Twin.feed(x, "f1;");
        return x;
    }

    private static ChairTooFew empty() {
        return new ChairTooFew();
    }

    private static ChairTooFew ringOf(String n) {
        ChairTooFew x = new ChairTooFew();
        DUE.is("a ring of " + n, Twin.read(x, "n" + n + ";"), 1);
        x.chair(0);
        x.walker(1, 0, 50);
        return x;
    }

    /** Two are IN and sat, so nobody went. */
    private static ChairTooFew endedAllSat() {
        ChairTooFew x = new ChairTooFew();
        x.chair(0);
        x.chair(6);
        x.walker(0, 0, 50);
        x.walker(6, 0, 50);
        x.stop();
        x.row(3);
        return x;
    }

    /** One is IN, as the other went; a CHAIR came behind that, so it has not ENDED. */
    private static ChairTooFew oneLeft() {
        ChairTooFew x = new ChairTooFew();
        x.chair(0);
        x.walker(0, 0, 50);
        x.walker(6, 0, 50);
        x.stop();
        x.chair(1);
        return x;
    }

    private static ChairTooFew oneAtFirst() {
        ChairTooFew x = new ChairTooFew();
        x.chair(0);
        x.walker(0, 0, 50);
        return x;
    }

    private static ChairTooFew noChair() {
        ChairTooFew x = new ChairTooFew();
        x.walker(0, 0, 50);
        x.walker(6, 0, 50);
        return x;
    }

    private static ChairTooFew chairs(int n) {
        ChairTooFew x = busy();
        for (int place = 1; x.count(1) < n; place++) {
            if (x.has(place) == 0) x.chair(place);
        }
        return x;
    }

    private static ChairTooFew bytes(int n) {
        ChairTooFew x = busy();
        while (x.count(8) < n) x.feed(1, ';');
        return x;
    }

    private static ChairTooFew stops(int n) {
        ChairTooFew x = busy();
        while (x.count(6) < n) x.row(8);
        return x;
    }

    private static ChairTooFew pictures(int n) {
        ChairTooFew x = busy();
        while (x.count(7) < n) x.film(5);
        return x;
    }

    private static void no(String what, Twin.Maker maker, Twin.Call call, int number) {
        Twin.refused(DUE, what, maker, call, number);
    }

    private static void yes(String what, Twin.Maker maker, Twin.Call call, int answer) {
        ChairTooFew x = maker.make();
        int before = refusals(x);
        DUE.is(what, call.on(x), answer);
        DUE.is(what + ", no refusal", refusals(x), before);
    }

    private static int refusals(ChairTooFew x) {
        int sum = 0;
        for (int c = 11; c <= 16; c++) sum += x.count(c);
        return sum;
    }

    /** Below the least -4, above the greatest -6, far off likewise; the edges themselves are no refusal. */
    private static void range(String what, Asked asked, int least, int most) {
        int[] below = {least - 1, least - 2, -1000, LEAST};
        int[] above = {most + 1, most + 2, 1000, MOST};
        for (int n : below) no(what + ", BELOW: " + n, RefusalTest::busy, x -> asked.with(x, n), -4);
        for (int n : above) no(what + ", ROOM: " + n, RefusalTest::busy, x -> asked.with(x, n), -6);
        within(what, asked, least, most);
    }

    private static void within(String what, Asked asked, int least, int most) {
        int[] edges = {least, most};
        for (int n : edges) {
            ChairTooFew x = busy();
            int before = refusals(x);
            asked.with(x, n);
            DUE.is(what + ", no refusal: " + n, refusals(x), before);
        }
    }

    /** A number that stands for nobody: -1. */
    private static void nobody(String what, Asked asked, int... numbers) {
        for (int n : numbers) no(what + ", NOBODY: " + n, RefusalTest::busy, x -> asked.with(x, n), -1);
    }

    private static void others(String what, Asked asked, int most) {
        int[] numbers = {-1, most + 1, LEAST, MOST};
        for (int n : numbers) no(what + ", OTHER: " + n, RefusalTest::busy, x -> asked.with(x, n), -2);
        within(what, asked, 0, most);
    }

    /** -3 as go(): the PARTY ENDED, or fewer than two are IN, or no CHAIR. */
    private static void asGo(String what, Twin.Call call) {
        no(what + ", -3 ENDED, all sat", RefusalTest::endedAllSat, call, -3);
        no(what + ", -3 one is left", RefusalTest::oneLeft, call, -3);
        no(what + ", -3 one at first", RefusalTest::oneAtFirst, call, -3);
        no(what + ", -3 no CHAIR", RefusalTest::noChair, call, -3);
        yes(what + ": and else it is no refusal", RefusalTest::busy, x -> call.on(x) >= -9 ? 1 : 0, 1);
    }

    private static void makers() {
        ChairTooFew x = busy();
        DUE.is("busy: CHAIRS", x.count(1), 3);
        DUE.is("busy: IN", x.count(3), 3);
        DUE.is("busy: who is not IN", x.of(GONE, 2), 0);
        DUE.is("busy: TENTHS", x.count(4), 7);
        DUE.is("busy: no refusals", refusals(x), 0);
        DUE.is("busy: goes on", x.go(1), 0);
    }

    private static void feed() {
        range("2: n (1 .. 8)", (x, n) -> x.feed(n, 0x3b3b3b3b3b3b3b3bL), 1, 8);
        for (int n = 1; n <= 8; n++) {
            int had = 64 - n;
            int more = n;
            yes("2: 64 bytes at most: " + had + " and " + n, () -> bytes(had), x -> x.feed(more, 0), 64);
            no("2: above 64, too: " + (had + 1) + " and " + n, () -> bytes(had + 1), x -> x.feed(more, 0), -6);
        }
        no("2: -4 ahead of -6: no room", () -> bytes(64), x -> x.feed(0, 0), -4);
        no("2: n itself above, no room", () -> bytes(64), x -> x.feed(9, 0), -6);
        no("2: one that would wrap", () -> bytes(64), x -> x.feed(MOST, 0), -6);
    }

    private static void party() {
        String[] faults = {"", "x", "n", "n3;", "c0", "c7;", "w0,0;", "w99,0,50;", "p5,5;", "f9;", "c3;c3;", "n12;"};
        int[] due = {-1000, -1000, -1001, -2000, -1002, -2000, -1004, -2000, -2000, -2000, -2003, -2000};
        for (int i = 0; i < faults.length; i++) {
            String text = faults[i];
            ChairTooFew x = busy();
            ChairTooFew y = busy();
            DUE.is("3: what busy() left", x.party() * 10 + y.party(), 11);
            DUE.is("3: FAULT of " + text, Twin.read(x, text), due[i]);
            DUE.is("3: nothing is counted", refusals(x), 0);
            Twin.alike(DUE, "3: with a FAULT nothing comes: " + text, x, y);
        }
    }

    private static void chair() {
        nobody("4: PLACE", (x, n) -> x.chair(n), -1, 24, 25, 59, 60, LEAST, MOST);
        no("4: -1 in the least ring", () -> ringOf("4"), x -> x.chair(4), -1);
        yes("4: its last PLACE", () -> ringOf("4"), x -> x.chair(3), 2);
        no("4: -1 in the greatest ring", () -> ringOf("60"), x -> x.chair(60), -1);
        yes("4: its last PLACE", () -> ringOf("60"), x -> x.chair(59), 2);
        no("4: -3 it has one", RefusalTest::busy, x -> x.chair(7), -3);
        yes("4: one that went left its PLACE free", RefusalTest::busy, x -> x.chair(0), 4);
        yes("4: the eleventh", () -> chairs(10), x -> x.chair(18), 11);
        no("4: -6 11", () -> chairs(11), x -> x.chair(18), -6);
        no("4: -1 ahead of -6", () -> chairs(11), x -> x.chair(24), -1);
        no("4: -3 ahead of -6", () -> chairs(11), x -> x.chair(7), -3);
    }

    private static void walker() {
        nobody("5: PLACE", (x, n) -> x.walker(n, 0, 50), -1, 24, 60, LEAST, MOST);
        nobody("5: KIND", (x, n) -> x.walker(22, n, 50), -1, 7, LEAST, MOST);
        nobody("5: -1 ahead of -4: PLACE", (x, n) -> x.walker(n, 0, 0), -1, 24);
        nobody("5: -1 ahead of -6: PLACE", (x, n) -> x.walker(n, 0, 100), -1, 24);
        nobody("5: -1 ahead of -4: KIND", (x, n) -> x.walker(22, n, 0), -1, 7);
        nobody("5: -1 ahead of -6: KIND", (x, n) -> x.walker(22, n, 100), -1, 7);
        within("5: KIND", (x, n) -> x.walker(22, n, 50), 0, 6);
        within("5: PLACE", (x, n) -> x.walker(n, 0, 50), 0, 23);
        range("5: FAST", (x, n) -> x.walker(22, 0, n), 1, 99);
        no("5: -3 one that is IN is there", RefusalTest::busy, x -> x.walker(x.of(0, 0), 0, 50), -3);
        no("5: -4 ahead of -3", RefusalTest::busy, x -> x.walker(x.of(0, 0), 0, 0), -4);
        no("5: -6 ahead of -3", RefusalTest::busy, x -> x.walker(x.of(0, 0), 0, 100), -6);
        no("5: -1 ahead of -3", RefusalTest::busy, x -> x.walker(x.of(0, 0), 7, 50), -1);
        yes("5: who is not IN is in nobody's way", RefusalTest::busy, x -> x.walker(x.of(GONE, 0), 0, 50), 4);
    }

    private static ChairTooFew crowd(int walkers) {
        ChairTooFew x = new ChairTooFew();
        x.chair(0);
        for (int w = 0; w < walkers; w++) x.walker(w, w % 7, 50 + w);
        return x;
    }

    private static void walkerRoom() {
        yes("5: the twelfth", () -> crowd(11), x -> x.walker(20, 0, 50), 11);
        no("5: -6 12, too", () -> crowd(12), x -> x.walker(20, 0, 50), -6);
        no("5: -1 ahead of 12", () -> crowd(12), x -> x.walker(24, 0, 50), -1);
        no("5: -1 ahead of 12", () -> crowd(12), x -> x.walker(20, 7, 50), -1);
        no("5: -4 ahead of 12", () -> crowd(12), x -> x.walker(20, 0, 0), -4);
        no("5: 12 ahead of -3", () -> crowd(12), x -> x.walker(3, 0, 50), -6);
        no("5: those that went are counted, too", () -> {
            ChairTooFew x = crowd(12);
            x.stop();
            return x;
        }, x -> x.walker(20, 0, 50), -6);
    }

    private static void set() {
        nobody("6: WALKER", (x, n) -> x.set(n, 0, 50), -1, 4, 12, LEAST, MOST);
        nobody("6: -1 ahead of -2", (x, n) -> x.set(n, 6, 50), -1, 4);
        nobody("6: -1 ahead of -4", (x, n) -> x.set(n, 0, 0), -1, 4);
        nobody("6: -1 ahead of -6", (x, n) -> x.set(n, 0, 100), -1, 4);
        others("6: what", (x, n) -> x.set(0, n, 1), 5);
        others("6: -2 ahead of -4", (x, n) -> x.set(0, n, n < 0 || n > 5 ? -1 : 1), 5);
        others("6: -2 ahead of -6", (x, n) -> x.set(0, n, n < 0 || n > 5 ? 1000 : 1), 5);
        String[] names = {"FAST (1 .. 99)", "SLOW (1 .. 99)", "REACH (0 .. 9)", "SIZE (0 .. 9)", "MANNERS (0 .. 9)",
            "KIND (0 .. 6)"};
        int[] most = {99, 99, 9, 9, 9, 6};
        for (int what = 0; what < 6; what++) {
            int trait = what;
            range("6: " + names[what], (x, n) -> x.set(1, trait, n), what < 2 ? 1 : 0, most[what]);
        }
        yes("6: of one that is not IN", RefusalTest::busy, x -> x.set(GONE, 3, 2), 5);
    }

    private static void player() {
        nobody("7: KIND", (x, n) -> x.player(n, 50), -1, 5, LEAST, MOST);
        nobody("7: -1 ahead of -4", (x, n) -> x.player(n, 0), -1, 5);
        nobody("7: -1 ahead of -6", (x, n) -> x.player(n, 100), -1, 5);
        within("7: KIND", (x, n) -> x.player(n, 50), 0, 4);
        range("7: FIGURE (1 .. 99)", (x, n) -> x.player(2, n), 1, 99);
    }

    private static void form() {
        range("8: FORM (0 .. 2)", (x, n) -> x.form(n), 0, 2);
    }

    private static void seed() {
        int[] any = {0, -1, -9, LEAST, MOST, 1};
        for (int z : any) yes("9: z is as it is, whatever it is: " + z, RefusalTest::busy, x -> {
            x.seed(z);
            return x.seed(0);
        }, z);
    }

    private static void of() {
        nobody("10: WALKER", (x, n) -> x.of(n, 0), -1, 4, 12, LEAST, MOST);
        nobody("10: -1 ahead of -2", (x, n) -> x.of(n, 6), -1, 4);
        others("10: what", (x, n) -> x.of(0, n), 5);
        yes("10: of one that is not IN", RefusalTest::busy, x -> x.of(GONE, 0), 20);
    }

    private static void has() {
        nobody("11: PLACE", (x, n) -> x.has(n), -1, 24, 59, 60, LEAST, MOST);
        no("11: -1 in the least ring", () -> ringOf("4"), x -> x.has(4), -1);
        yes("11: its last PLACE", () -> ringOf("4"), x -> x.has(3), 0);
        no("11: -1 in the greatest ring", () -> ringOf("60"), x -> x.has(60), -1);
        yes("11: its last PLACE", () -> ringOf("60"), x -> x.has(59), 0);
        within("11: PLACE", (x, n) -> x.has(n), 0, 23);
    }

    private static void haste() {
        nobody("12: WALKER", (x, n) -> x.haste(n, 0), -1, 4, 12, LEAST, MOST);
        nobody("12: PLACE", (x, n) -> x.haste(0, n), -1, 24, 60, LEAST, MOST);
        within("12: PLACE", (x, n) -> x.haste(0, n), 0, 23);
        within("12: WALKER, IN or not", (x, n) -> x.haste(n, 0), 0, 3);
        no("12: nobody at all", RefusalTest::empty, x -> x.haste(0, 0), -1);
    }

    private static void go() {
        range("13: n (1 .. 300)", (x, n) -> x.go(n), 1, 300);
        asGo("13: go(1)", x -> x.go(1));
        asGo("13: go(300)", x -> x.go(300));
        no("13: nobody, no CHAIR", RefusalTest::empty, x -> x.go(1), -3);
        no("13: -3 ahead of -4: ENDED", RefusalTest::endedAllSat, x -> x.go(0), -3);
        no("13: -3 ahead of -6: ENDED", RefusalTest::endedAllSat, x -> x.go(301), -3);
        no("13: -3 ahead of -4: one", RefusalTest::oneAtFirst, x -> x.go(0), -3);
        no("13: -3 ahead of -6: one", RefusalTest::oneAtFirst, x -> x.go(301), -3);
        no("13: -3 ahead of -4: no CHAIR", RefusalTest::noChair, x -> x.go(0), -3);
        no("13: -3 ahead of -6: no CHAIR", RefusalTest::noChair, x -> x.go(301), -3);
    }

    private static void stop() {
        asGo("14: stop()", x -> x.stop());
        no("14: nobody, no CHAIR", RefusalTest::empty, x -> x.stop(), -3);
    }

    private static void sits() {
        nobody("15: WALKER", (x, n) -> x.sits(n), -1, 4, 12, LEAST, MOST);
        nobody("15: not IN, too", (x, n) -> x.sits(n), GONE);
        no("15: nobody at all", RefusalTest::empty, x -> x.sits(0), -1);
        yes("15: no CHAIR is no refusal", RefusalTest::noChair, x -> x.sits(0), -9);
        yes("15: ENDED is no refusal", RefusalTest::endedAllSat, x -> x.sits(1), 6);
    }

    private static void would() {
        others("16: what", (x, n) -> x.would(n), 1);
        yes("16: nobody is no refusal", RefusalTest::empty, x -> x.would(0), -9);
        yes("16: no CHAIR is no refusal", RefusalTest::empty, x -> x.would(1), -9);
        no("16: what, when nobody is there", RefusalTest::empty, x -> x.would(2), -2);
    }

    private static void odds() {
        nobody("17: WALKER", (x, n) -> x.odds(n, 5), -1, 4, LEAST, MOST);
        nobody("17: not IN, too", (x, n) -> x.odds(n, 5), GONE);
        nobody("17: -1 ahead of -4", (x, n) -> x.odds(n, 0), -1, 4, GONE);
        nobody("17: -1 ahead of -6", (x, n) -> x.odds(n, 201), -1, 4, GONE);
        range("17: n (1 .. 200)", (x, n) -> x.odds(0, n), 1, 200);
        yes("17: ENDED is no refusal", RefusalTest::endedAllSat, x -> x.odds(0, 3), 3);
        yes("17: one alone is no refusal", RefusalTest::oneAtFirst, x -> x.odds(0, 3), 3);
    }

    private static void fair() {
        range("18: n (1 .. 200)", (x, n) -> x.fair(n), 1, 200);
        yes("18: 0, if nobody is IN", RefusalTest::empty, x -> x.fair(200), 0);
        no("18: below, if nobody is IN", RefusalTest::empty, x -> x.fair(0), -4);
        no("18: above, if nobody is IN", RefusalTest::empty, x -> x.fair(201), -6);
    }

    private static void bestSlow() {
        nobody("19: WALKER", (x, n) -> x.bestSlow(n, 5), -1, 4, LEAST, MOST);
        nobody("19: -1 ahead of -4", (x, n) -> x.bestSlow(n, 0), -1, 4);
        nobody("19: -1 ahead of -6", (x, n) -> x.bestSlow(n, 201), -1, 4);
        range("19: n (1 .. 200)", (x, n) -> x.bestSlow(0, n), 1, 200);
    }

    private static void cheat() {
        nobody("20: WALKER", (x, n) -> x.cheat(n, 5), -1, 4, LEAST, MOST);
        nobody("20: -1 ahead of -4", (x, n) -> x.cheat(n, 0), -1, 4);
        nobody("20: -1 ahead of -6", (x, n) -> x.cheat(n, 201), -1, 4);
        range("20: n (1 .. 200)", (x, n) -> x.cheat(0, n), 1, 200);
    }

    private static void lasts() {
        others("21: what", (x, n) -> x.lasts(n), 2);
        for (int what = 0; what < 3; what++) {
            int asked = what;
            asGo("21: lasts(" + what + ")", x -> x.lasts(asked));
        }
        no("21: -2 ahead of -3", RefusalTest::endedAllSat, x -> x.lasts(3), -2);
        no("21: -2 ahead of -3", RefusalTest::noChair, x -> x.lasts(-1), -2);
    }

    private static void wins() {
        nobody("22: WALKER", (x, n) -> x.wins(n, 5, 1), -1, 4, LEAST, MOST);
        nobody("22: -1 ahead of -4", (x, n) -> x.wins(n, 0, 1), -1, 4);
        nobody("22: -1 ahead of -6", (x, n) -> x.wins(n, 21, 1), -1, 4);
        range("22: n (1 .. 20)", (x, n) -> x.wins(0, n, 1), 1, 20);
        asGo("22: wins(0, 1, 1)", x -> x.wins(0, 1, 1));
        no("22: -1 ahead of -3", RefusalTest::endedAllSat, x -> x.wins(2, 1, 1), -1);
        no("22: -4 ahead of -3", RefusalTest::endedAllSat, x -> x.wins(0, 0, 1), -4);
        no("22: -6 ahead of -3", RefusalTest::endedAllSat, x -> x.wins(0, 21, 1), -6);
    }

    private static void fairest() {
        range("23: n (1 .. 20)", (x, n) -> x.fairest(n, 1), 1, 20);
        asGo("23: fairest(1, 1)", x -> x.fairest(1, 1));
        no("23: -4 ahead of -3", RefusalTest::noChair, x -> x.fairest(0, 1), -4);
        no("23: -6 ahead of -3", RefusalTest::noChair, x -> x.fairest(21, 1), -6);
    }

    private static void shortest() {
        asGo("24: shortest()", x -> x.shortest());
    }

    private static void row() {
        range("25: a TENTH (1 .. 300)", (x, n) -> x.row(n), 1, 300);
        yes("25: the sixteenth", () -> stops(15), x -> x.row(300), 16);
        no("25: -6 16, too", () -> stops(16), x -> x.row(1), -6);
        no("25: -4 ahead of -6", () -> stops(16), x -> x.row(0), -4);
        no("25: both of -6", () -> stops(16), x -> x.row(301), -6);
    }

    private static void could() {
        Twin.unchanged(DUE, "26: the ROW stays", RefusalTest::busy, x -> x.could(), 9);
        Twin.unchanged(DUE, "26: a full ROW stays", () -> stops(16), x -> x.could(), 9);
        Twin.unchanged(DUE, "26: of no ROW", RefusalTest::empty, x -> x.could(), 31);
    }

    private static void next() {
        range("27: a told TENTH (1 .. 300)", (x, n) -> x.next(n), 1, 300);
        no("27: -3 it has none", RefusalTest::empty, x -> x.next(1), -3);
        no("27: -4 ahead of -3", RefusalTest::empty, x -> x.next(0), -4);
        no("27: -6 ahead of -3", RefusalTest::empty, x -> x.next(301), -6);
        no("27: the ROW has none then", () -> {
            ChairTooFew x = busy();
            x.next(300);
            return x;
        }, x -> x.next(300), -3);
    }

    private static void team() {
        for (int what = 0; what < 2; what++) {
            int asked = what;
            nobody("28: one", (x, n) -> x.team(n, 0, 5, asked), -1, 4, LEAST, MOST);
            nobody("28: other", (x, n) -> x.team(0, n, 5, asked), -1, 4, LEAST, MOST);
            nobody("28: one twice", (x, n) -> x.team(n, n, 5, asked), 0, 1, 2);
            nobody("28: not IN, too: one", (x, n) -> x.team(n, 0, 5, asked), GONE);
            nobody("28: not IN, too: other", (x, n) -> x.team(0, n, 5, asked), GONE);
            range("28: n (1 .. 200)", (x, n) -> x.team(0, 1, n, asked), 1, 200);
        }
        others("28: what", (x, n) -> x.team(0, 1, 5, n), 1);
        nobody("28: -1 ahead of -2", (x, n) -> x.team(n, 0, 5, 2), 0, 4, GONE);
        nobody("28: -1 ahead of -4", (x, n) -> x.team(0, n, 0, 0), 0, 4, GONE);
        nobody("28: -1 ahead of -6", (x, n) -> x.team(n, n, 201, 1), 0, 4, GONE);
        no("28: -2 ahead of -4", RefusalTest::busy, x -> x.team(0, 1, 0, 2), -2);
        no("28: -2 ahead of -6", RefusalTest::busy, x -> x.team(0, 1, 201, -1), -2);
    }

    private static void film() {
        nobody("29: PLACE", (x, n) -> x.film(n), -1, 24, 60, LEAST, MOST);
        within("29: PLACE", (x, n) -> x.film(n), 0, 23);
        no("29: -1 in the least ring", () -> ringOf("4"), x -> x.film(4), -1);
        yes("29: its last PLACE", () -> ringOf("4"), x -> x.film(3), 1);
        no("29: -1 in the greatest ring", () -> ringOf("60"), x -> x.film(60), -1);
        yes("29: its last PLACE", () -> ringOf("60"), x -> x.film(59), 1);
        yes("29: the sixtieth", () -> pictures(59), x -> x.film(23), 60);
        no("29: -6 60", () -> pictures(60), x -> x.film(0), -6);
        no("29: -1 ahead of -6", () -> pictures(60), x -> x.film(24), -1);
    }

    private static void judge() {
        nobody("30: WALKER: the FILM stays", (x, n) -> x.judge(n), -1, 4, LEAST, MOST);
        nobody("30: not IN, too: it stays", (x, n) -> x.judge(n), GONE);
        yes("30: an empty FILM is no refusal", RefusalTest::oneAtFirst, x -> x.judge(0), -9);
        yes("30: ENDED is no refusal", RefusalTest::endedAllSat, x -> x.judge(0), -9);
    }

    private static void imageAndRestore() {
        no("32: -3 there is none", RefusalTest::endedAllSat, x -> x.restore(), -3);
        no("32: -3 there is none", RefusalTest::empty, x -> x.restore(), -3);
        yes("31: of a new object", RefusalTest::empty, x -> x.image(), 0);
        yes("31: those that are not IN, too", RefusalTest::busy, x -> x.image(), 4);
        yes("32: those of the image", RefusalTest::busy, x -> {
            x.walker(22, 0, 50);
            return x.restore();
        }, 4);
    }

    private static void count() {
        int[] others = {-1, -9, 9, 10, 17, 18, 100, LEAST, MOST};
        for (int what : others) {
            Twin.unchanged(DUE, "33: -9 for another what: " + what, RefusalTest::busy, x -> x.count(what), -9);
        }
        ChairTooFew x = busy();
        x.has(-1);
        for (int i = 0; i < 2; i++) x.would(2);
        for (int i = 0; i < 3; i++) x.chair(7);
        for (int i = 0; i < 4; i++) x.go(0);
        for (int i = 0; i < 5; i++) x.go(301);
        int[] due = {1, 2, 3, 4, 0, 5};
        for (int i = 0; i < 6; i++) DUE.is("33: REFUSALS " + (-1 - i), x.count(11 + i), due[i]);
    }
}
