/**
 * The edges that the Terms name (the part before the promises), a method a sentence: too small,
 * too large, empty, full, gone round, wrapping, of several the least. Refusals: RefusalTest.
 */
public final class EdgeTest {
    private static final Due DUE = new Due("EdgeTest");

    public static void main(String[] args) {
        ringSizes();
        goneRound();
        eachPlaceOfEachRing();
        chairsAtMost();
        far();
        walkersAsTheyCome();
        inTillTheyGo();
        slowOfFast();
        hasteOfEachKind();
        hasteIsNeverBelowNothing();
        hasteIsCut();
        evenBelowFigure();
        phraseInEighths();
        phraseByDraw();
        longOrMore();
        likingModulo();
        likingWhoIsThere();
        toldTenth();
        drawsWrap();
        drawsWithoutSign();
        drawOfEachTenth();
        DUE.end();
    }

    /** So big a ring with a CHAIR at a PLACE and walkers of FAST 50 at others; nothing stops for 98 TENTHS. */
    private static ChairTooFew ring(int n, int chair, int... places) {
        ChairTooFew x = new ChairTooFew();
        if (n != 24) DUE.is("n" + n, Twin.read(x, "n" + n + ";"), 1);
        x.chair(chair);
        for (int place : places) x.walker(place, 0, 50);
        x.player(4, 99);
        return x;
    }

    private static void is(String what, long got, long want) {
        DUE.is(what, got, want);
    }

    private static void at(String what, ChairTooFew x, int walker, int place, int parts) {
        DUE.is(what + ", PLACE of " + walker, x.of(walker, 0), place);
        DUE.is(what + ", parts of " + walker, x.of(walker, 1), parts);
    }

    // "THE RING has PLACES 0 .. N less 1 (N 4 .. 60; 24 at first)"
    private static void ringSizes() {
        is("24 at first", new ChairTooFew().count(0), 24);
        int[] sizes = {0, 1, 3, 4, 5, 59, 60, 61, 99, 999};
        for (int n : sizes) {
            ChairTooFew x = new ChairTooFew();
            boolean fits = n >= 4 && n <= 60;
            is("n" + n, Twin.read(x, "n" + n + ";"), fits ? 1 : -2000);
            int places = fits ? n : 24;
            is("N behind n" + n, x.count(0), places);
            is("the first PLACE of " + places, x.has(0), 0);
            is("the last PLACE of " + places, x.has(places - 1), 0);
            is("no PLACE behind it of " + places, x.has(places), -1);
            is("no PLACE ahead of the first of " + places, x.has(-1), -1);
        }
    }

    // ", gone round."
    private static void goneRound() {
        int[] sizes = {4, 5, 24, 60};
        for (int n : sizes) {
            ChairTooFew x = ring(n, 2, n - 1, 1);
            x.go(1);
            at("not yet round " + n, x, 0, n - 1, 50);
            x.go(1);
            at("from the last PLACE to the first of " + n, x, 0, 0, 0);
            x.go(2);
            at("and on in " + n, x, 0, 1, 0);
        }
    }

    private static void eachPlaceOfEachRing() {
        for (int n = 4; n <= 60; n += 7) {
            ChairTooFew x = new ChairTooFew();
            Twin.read(x, "n" + n + ";");
            x.walker(0, 0, 1);
            for (int p = 0; p < n; p++) is("FAR in " + n, x.haste(0, p), 100 * Math.min(p, n - p));
            is("none behind " + n, x.haste(0, n), -1);
        }
    }

    // "CHAIRS (11 at most) are at PLACES, one at each at most"
    private static void chairsAtMost() {
        ChairTooFew x = new ChairTooFew();
        for (int c = 0; c < 11; c++) {
            is("CHAIR " + c, x.chair(23 - 2 * c), c + 1);
            is("one at each at most", x.chair(23 - 2 * c), -3);
        }
        is("11 at most", x.chair(0), -6);
        is("11 at most", x.count(1), 11);
        is("not there", x.has(0), 0);
        for (int c = 0; c < 11; c++) is("each is there", x.has(23 - 2 * c), 1);
        ChairTooFew y = new ChairTooFew();
        for (int c = 0; c < 11; c++) y.chair(c);
        y.walker(20, 0, 50);
        y.walker(16, 0, 50);
        y.set(0, 2, 0);
        y.set(1, 2, 0);
        is("a CHAIR goes", y.stop(), 1);
        is("ten are left", y.count(1), 10);
        is("room for one again", y.chair(12), 11);
        is("and no more", y.chair(13), -6);
    }

    // "FAR of two PLACES: the lesser way round."
    private static void far() {
        ChairTooFew even = ring(24, 3, 0);
        even.set(0, 0, 1);
        is("none to itself", even.haste(0, 0), 0);
        is("one ahead", even.haste(0, 1), 100);
        is("one behind, round", even.haste(0, 23), 100);
        is("half way", even.haste(0, 12), 1200);
        is("a step more is less", even.haste(0, 13), 1100);
        is("a step less is less", even.haste(0, 11), 1100);
        ChairTooFew odd = ring(5, 3, 4);
        odd.set(0, 0, 1);
        int[] fromFour = {100, 200, 200, 100, 0};
        for (int p = 0; p < 5; p++) is("FAR from 4 in a ring of 5", odd.haste(0, p), fromFour[p]);
        ChairTooFew least = ring(4, 3, 1);
        least.set(0, 0, 1);
        int[] fromOne = {100, 0, 100, 200};
        for (int p = 0; p < 4; p++) is("FAR from 1 in a ring of 4", least.haste(0, p), fromOne[p]);
        ChairTooFew most = ring(60, 3, 59);
        most.set(0, 0, 1);
        is("FAR gone round in a ring of 60", most.haste(0, 0), 100);
        is("half of a ring of 60", most.haste(0, 29), 3000);
        is("a step more", most.haste(0, 30), 2900);
    }

    // "WALKERS 0 .. 11 as they come, each at a PLACE (one at each at most; it has gone 0 parts of it)"
    private static void walkersAsTheyCome() {
        ChairTooFew x = new ChairTooFew();
        for (int w = 0; w < 12; w++) {
            is("WALKER " + w, x.walker(2 * w, 0, 50), w);
            at("as it comes", x, w, 2 * w, 0);
            if (w < 11) is("one at each at most", x.walker(2 * w, 0, 50), -3);
        }
        is("no WALKER 12", x.walker(1, 0, 50), -6);
        is("12 are there", x.count(2), 12);
        is("nobody is 12", x.of(12, 0), -1);
        ChairTooFew y = ring(24, 3, 10, 20);
        y.go(1);
        y.walker(15, 0, 50);
        at("who comes later has gone 0 parts", y, 2, 15, 0);
        y.go(1);
        at("and goes on from then", y, 2, 15, 50);
    }

    // "They are IN till they GO."
    private static void inTillTheyGo() {
        ChairTooFew x = ring(24, 0, 0, 8, 16);
        x.go(90);
        for (int w = 0; w < 3; w++) is("IN", x.of(w, 2), 1);
        int goer = x.would(0);
        is("somebody GOES", x.stop(), goer);
        for (int w = 0; w < 3; w++) is("IN, but for who went", x.of(w, 2), w == goer ? 0 : 1);
        is("so many are IN", x.count(3), 2);
        is("so many came", x.count(2), 3);
        int place = x.of(goer, 0);
        int parts = x.of(goer, 1);
        x.go(9);
        at("who went stays where it is", x, goer, place, parts);
    }

    // "SLOW half of FAST, cut, 1 at least"
    private static void slowOfFast() {
        int[] fast = {1, 2, 3, 4, 5, 98, 99};
        int[] slow = {1, 1, 1, 2, 2, 49, 49};
        for (int i = 0; i < fast.length; i++) {
            ChairTooFew x = new ChairTooFew();
            x.walker(0, 0, fast[i]);
            is("SLOW of FAST " + fast[i], x.of(0, 5), slow[i]);
            ChairTooFew y = new ChairTooFew();
            Twin.read(y, "w0,0," + fast[i] + ";");
            is("SLOW of FAST " + fast[i] + " in a text", y.of(0, 5), slow[i]);
        }
    }

    private static int haste(int kind, int fast, int size, int manners, int far) {
        ChairTooFew x = new ChairTooFew();
        Twin.read(x, "n60;");
        x.walker(0, kind, fast);
        x.set(0, 3, size);
        x.set(0, 4, manners);
        is("as far the other way", x.haste(0, (60 - far) % 60), x.haste(0, far));
        return x.haste(0, far);
    }

    // "HASTE of a WALKER for a CHAIR", by KINDS
    private static void hasteOfEachKind() {
        is("PLAIN: FAR times 100 by FAST", haste(0, 40, 9, 9, 30), 75);
        is("RACED: a PLAIN's less SIZE", haste(1, 40, 9, 3, 30), 66);
        is("LAPPED: a PLAIN's and SIZE", haste(2, 40, 9, 3, 30), 84);
        is("PUSHED: a RACED's less 9 less MANNERS", haste(3, 40, 9, 3, 30), 60);
        is("PUSHED of MANNERS 9: as RACED", haste(3, 40, 9, 9, 30), 66);
        is("PUSHED of MANNERS 0: 9 less", haste(3, 40, 9, 0, 30), 57);
        is("MISSED: twice a PLAIN's", haste(4, 40, 9, 3, 30), 150);
        is("FORETOLD: half of a RACED's", haste(5, 40, 9, 3, 30), 33);
        is("JUDGED: a LAPPED's and MANNERS", haste(6, 40, 9, 3, 30), 87);
        is("SIZE 0: RACED is PLAIN", haste(1, 40, 0, 3, 30), 75);
        is("SIZE 0: LAPPED is PLAIN", haste(2, 40, 0, 3, 30), 75);
        is("MANNERS 0: JUDGED is LAPPED", haste(6, 40, 9, 0, 30), 84);
        is("the greatest of MISSED", haste(4, 1, 9, 9, 30), 6000);
        is("the greatest of JUDGED", haste(6, 1, 9, 9, 30), 3018);
        is("FAR 0: PLAIN", haste(0, 1, 9, 9, 0), 0);
        is("FAR 0: LAPPED", haste(2, 1, 9, 9, 0), 9);
        is("FAR 0: JUDGED", haste(6, 1, 9, 9, 0), 18);
        is("FAR 0: MISSED", haste(4, 1, 9, 9, 0), 0);
    }

    // "All 0 at least."
    private static void hasteIsNeverBelowNothing() {
        is("RACED: 5 less 5", haste(1, 20, 5, 9, 1), 0);
        is("RACED: 5 less 6", haste(1, 20, 6, 9, 1), 0);
        is("RACED: 5 less 4", haste(1, 20, 4, 9, 1), 1);
        is("PUSHED: 5 less 3 less 2", haste(3, 20, 3, 7, 1), 0);
        is("PUSHED: 5 less 3 less 3", haste(3, 20, 3, 6, 1), 0);
        is("PUSHED: 5 less 3 less 1", haste(3, 20, 3, 8, 1), 1);
        is("FORETOLD: half of 5 less 9", haste(5, 20, 9, 9, 1), 0);
        is("FORETOLD: half of 5 less 6", haste(5, 20, 6, 9, 1), 0);
        is("FAR 0: RACED", haste(1, 1, 9, 9, 0), 0);
        is("FAR 0: PUSHED", haste(3, 1, 9, 0, 0), 0);
        is("FAR 0: FORETOLD", haste(5, 1, 9, 0, 0), 0);
    }

    // "PLAIN: .. cut.", "FORETOLD: .. cut toward 0."
    private static void hasteIsCut() {
        is("100 by 99", haste(0, 99, 5, 5, 1), 1);
        is("100 by 51", haste(0, 51, 5, 5, 1), 1);
        is("100 by 50", haste(0, 50, 5, 5, 1), 2);
        is("200 by 99", haste(0, 99, 5, 5, 2), 2);
        is("MISSED: cut, then twice", haste(4, 51, 5, 5, 1), 2);
        is("FORETOLD: half of 5", haste(5, 20, 0, 5, 1), 2);
        is("FORETOLD: half of 1", haste(5, 20, 4, 5, 1), 0);
        is("FORETOLD: half of 2", haste(5, 20, 3, 5, 1), 1);
        is("FORETOLD: half of 3", haste(5, 20, 2, 5, 1), 1);
    }

    private static int after(int z) {
        return z * 1103515245 + 12345;
    }

    private static int drawOf(int z) {
        return (z & 0x7fffffff) / 65536 % 100;
    }

    private static int draw(int z, int tenth) {
        int then = z;
        for (int t = 0; t < tenth; t++) then = after(then);
        return drawOf(then);
    }

    /** A ring for draws: two walkers who cannot both sit. */
    private static ChairTooFew drawn(int kind, int figure, int z) {
        ChairTooFew x = ring(24, 0, 1, 12, 18);
        x.player(kind, figure);
        x.seed(z);
        return x;
    }

    /** The least z from 0 on whose first draw is so. */
    private static int seedOfDraw(int draw) {
        int z = 0;
        while (draw(z, 1) != draw) z++;
        return z;
    }

    // "0 EVEN (at first): stops in a TENTH, if a DRAW is below FIGURE", "FIGURE (1 .. 99; 10 at first)"
    private static void evenBelowFigure() {
        int[] draws = {0, 1, 2, 50, 97, 98, 99};
        for (int draw : draws) {
            int z = seedOfDraw(draw);
            for (int figure = Math.max(1, draw - 1); figure <= Math.min(99, draw + 2); figure++) {
                is("a DRAW of " + draw + ", FIGURE " + figure, drawn(0, figure, z).go(1), draw < figure ? 1 : 0);
            }
        }
        ChairTooFew first = ring(24, 0, 1, 12, 18);
        first.player(4, 99);
        is("TOLD is another", first.player(0, 1), 4);
        for (int draw = 9; draw <= 10; draw++) {
            ChairTooFew x = new ChairTooFew();
            x.chair(0);
            x.walker(1, 0, 50);
            x.walker(12, 0, 50);
            x.walker(18, 0, 50);
            x.seed(seedOfDraw(draw));
            is("EVEN with 10 at first: a DRAW of " + draw, x.go(1), draw < 10 ? 1 : 0);
        }
    }

    /** The first of TENTHS 1 .. 300 in which it stops. */
    private static int stopsIn(ChairTooFew x) {
        for (int t = 1; t <= 300; t++) {
            if (x.go(1) != 0) return t;
        }
        return 301;
    }

    // "1 PHRASE under EVEN: .. only in TENTHS of which 8 is a divisor"
    private static void phraseInEighths() {
        int z = 0;
        // A z whose draws of TENTHS 1 .. 16 all are below 99.
        for (int t = 1; t <= 16; t++) {
            if (draw(z, t) == 99) {
                z++;
                t = 0;
            }
        }
        ChairTooFew x = drawn(1, 99, z);
        is("not in 1 .. 7", x.go(7), 0);
        is("in 8", x.go(1), 1);
        ChairTooFew y = drawn(1, 1, z);
        is("not below FIGURE in 8", y.go(8), draw(z, 8) < 1 ? 1 : 0);
        y.player(1, 99);
        is("not in 9 .. 15", y.go(7), 0);
        is("in 16", y.go(1), 1);
    }

    // ".. as an EVEN"
    private static void phraseByDraw() {
        for (int z = 0; z < 40; z += 3) {
            for (int figure = 1; figure <= 99; figure += 49) {
                int due = 0;
                for (int t = 1; due == 0; t++) {
                    if (t % 8 == 0 && draw(z, t) < figure || t == 300) due = t;
                }
                is("PHRASE of z " + z + ", FIGURE " + figure, stopsInAtOnce(drawn(1, figure, z), due), due);
            }
        }
    }

    /** due, if it stops in that TENTH of its ROUND and in none ahead. */
    private static int stopsInAtOnce(ChairTooFew x, int due) {
        if (due > 1 && x.go(due - 1) != 0) return -1;
        return x.go(1) == 1 ? due : -2;
    }

    // "2 LONG under EVEN: .. if so many TENTHS went by in this ROUND as FIGURE, or more"
    private static void longOrMore() {
        int z = 0;
        while (draw(z, 4) >= 5 || draw(z, 5) >= 5) z++;
        ChairTooFew x = drawn(2, 5, z);
        is("LONG 5: not in 4, though drawn", x.go(4), 0);
        is("LONG 5: in 5", x.go(1), 1);
        int w = 0;
        while (draw(w, 5) < 5 || draw(w, 6) >= 5) w++;
        ChairTooFew y = drawn(2, 5, w);
        is("LONG 5: not drawn in 5", y.go(5), 0);
        is("LONG 5: in 6, or more", y.go(1), 1);
        int e = 0;
        while (draw(e, 5) != 5) e++;
        ChairTooFew even = drawn(2, 5, e);
        even.player(4, 99);
        even.go(4);
        even.player(2, 5);
        is("as an EVEN: a DRAW of 5 is not below 5", even.go(1), 0);
        is("LONG 1: in the first", drawn(2, 1, seedOfDraw(0)).go(1), 1);
        ChairTooFew again = drawn(2, 5, z);
        again.go(5);
        again.seed(z);
        is("LONG 5: in the next ROUND anew", again.go(4), 0);
        is("LONG 5: in its fifth", again.go(1), 2);
    }

    // "(the one of the number FIGURE modulo how many there are)"
    private static void likingModulo() {
        for (int figure = 1; figure <= 99; figure += 7) likes(3, figure);
        likes(3, 3);
        likes(3, 2);
        likes(12, 12);
        likes(12, 11);
        likes(12, 99);
        likes(2, 99);
    }

    /** So many walkers, of whom one after the other is the only one at a CHAIR. */
    private static void likes(int walkers, int figure) {
        for (int sits = 0; sits < walkers; sits++) {
            ChairTooFew x = new ChairTooFew();
            x.chair(12);
            for (int w = 0; w < walkers; w++) x.walker(w == sits ? 12 : w, 0, 1);
            x.player(3, figure);
            boolean due = figure % walkers == sits;
            is("LIKING " + figure + " of " + walkers + ", " + sits + " is there", x.go(1) > 0 ? 1 : 0, due ? 1 : 0);
        }
    }

    // "is IN and at a PLACE with a CHAIR"
    private static void likingWhoIsThere() {
        for (int draw = 0; draw < 100; draw += 33) {
            ChairTooFew whatever = ring(24, 0, 0, 10);
            whatever.player(3, 2);
            whatever.seed(seedOfDraw(draw));
            is("whatever is drawn: " + draw, whatever.go(1), 2);
        }
        ChairTooFew x = ring(24, 0, 22, 10);
        x.player(3, 2);
        is("as it is behind the TENTH: not at 23", x.go(3), 0);
        is("at 0 in the fourth", x.go(1), 2);
        ChairTooFew leaves = ring(24, 0, 0, 10, 15);
        leaves.set(0, 1, 99);
        leaves.set(0, 0, 99);
        leaves.go(1);
        leaves.player(3, 3);
        is("it left the CHAIR in this TENTH", leaves.go(1), 0);
        ChairTooFew gone = new ChairTooFew();
        gone.chair(0);
        gone.chair(1);
        gone.walker(1, 0, 1);
        gone.walker(12, 0, 1);
        gone.walker(18, 0, 1);
        gone.set(0, 2, 0);
        gone.set(1, 2, 0);
        gone.set(2, 2, 0);
        is("who stands at 12 goes", gone.stop(), 1);
        gone.chair(12);
        gone.player(3, 1);
        is("one who is not IN is at a CHAIR", gone.go(20), 0);
        gone.player(3, 3);
        is("who went is counted: 3 modulo 3 is 0", gone.go(1) > 0 ? 1 : 0, 1);
    }

    // "4 TOLD under EVEN: in the TENTH of the number FIGURE of the ROUND (the first is 1)"
    private static void toldTenth() {
        int[] figures = {1, 2, 98, 99};
        for (int figure : figures) is("TOLD " + figure, stopsInAtOnce(drawn(4, figure, 1), figure), figure);
        ChairTooFew x = drawn(4, 5, 1);
        is("TOLD 5", x.go(300), 1);
        is("of each ROUND", stopsIn(x), 5);
        ChairTooFew late = drawn(4, 50, 1);
        late.go(10);
        late.player(4, 10);
        is("behind its TENTH it comes no more", late.go(289), 0);
        is("till the 300th", late.go(1), 1);
    }

    // "z becomes z times 1103515245 plus 12345 (an int, wrapping)", "z (1 at first)"
    private static void drawsWrap() {
        int[] seeds = {0, 1, -1, Integer.MAX_VALUE, Integer.MIN_VALUE, 2, 123456789, -987654321};
        for (int z : seeds) {
            ChairTooFew x = drawn(4, 99, z);
            x.go(1);
            is("z behind " + z, x.seed(z), after(z));
            x.go(3);
            is("three behind " + z, x.seed(z), after(after(after(z))));
        }
        is("behind 0", after(0), 12345);
        is("behind 2147483647", after(Integer.MAX_VALUE), -1103502900 + Integer.MIN_VALUE);
        is("1 at first", new ChairTooFew().seed(5), 1);
    }

    // "a DRAW is (z without its sign's bit, over 65536, cut) modulo 100"
    private static void drawsWithoutSign() {
        int seen = 0;
        for (int z = 0; seen < 20; z++) {
            int then = after(z);
            if (then >= 0) continue;
            seen++;
            int draw = drawOf(then);
            if (draw > 0 && draw < 99) {
                is("below 0, DRAW " + draw, drawn(0, draw, z).go(1), 0);
                is("below 0, DRAW " + draw, drawn(0, draw + 1, z).go(1), 1);
            }
        }
    }

    // "each TENTH has one, whatever the KIND"
    private static void drawOfEachTenth() {
        for (int kind = 0; kind < 5; kind++) {
            ChairTooFew x = drawn(kind, 1, 1);
            x.set(1, 0, 1);
            int gone = 1;
            int z = after(1);
            if (x.go(1) == 0) {
                for (int t = 0; t < 7; t++) z = after(z);
                gone += 7;
                if (kind == 4) gone = x.go(7) == 0 ? gone : 0;
                else x.go(7);
            }
            is("draws of KIND " + kind + " in " + gone + " TENTHS", x.seed(1), z);
        }
        ChairTooFew told = drawn(4, 1, 7);
        told.go(1);
        is("the TENTH that stops, too", told.seed(1), after(7));
        ChairTooFew last = drawn(3, 1, 7);
        last.set(1, 0, 1);
        int z = 7;
        for (int t = 0; t < 300; t++) z = after(z);
        int gone = 0;
        while (last.go(1) == 0) gone++;
        is("the 300th is the last", gone, 299);
        is("the 300th, too", last.seed(1), z);
        ChairTooFew stop = drawn(4, 9, 7);
        stop.stop();
        is("stop() is no TENTH", stop.seed(1), 7);
    }
}
