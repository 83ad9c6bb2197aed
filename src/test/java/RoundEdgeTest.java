/** The edges that ==== II. names (a TENTH, SITTING, who GOES, WHICH CHAIR, the end), a method a sentence. */
public final class RoundEdgeTest {
    private static final Due DUE = new Due("RoundEdgeTest");
    private static final int PLAIN = 0;
    private static final int LAPPED = 2;
    private static final int MISSED = 4;
    private static final int JUDGED = 6;

    public static void main(String[] args) {
        slowOrFast();
        hundredParts();
        oneIsThere();
        byNumbersAsItIsThen();
        whoIsNotInIsNotInTheWay();
        fullRing();
        tenthIsOneMoreAhead();
        threeHundredTenths();
        threeHundredOfEachKind();
        goInPieces();
        noFartherThanReach();
        leastHasteFirst();
        leastWalkerOfSeveral();
        leastPlaceOfSeveral();
        againTillThereIsNone();
        asLittleHaste();
        withinReachOfTheChair();
        leastNumberOfThese();
        byNumbersOnce();
        whenAllAreSeated();
        judgedOfTwelve();
        onlyWhoDoesNotSitGets();
        farthestGoes();
        nearestChairCounts();
        greatestNumberGoes();
        nobodyIfAllSit();
        formsOfOne();
        leastOrGreatestPlace();
        nearestTogether();
        chairGoesIfSomebodyGoes();
        lastChairStays();
        allStayWhereTheyAre();
        nextRoundBegins();
        endsWhenOneIsIn();
        endsWhenNobodyGoes();
        goesOnByWhatComes();
        answersOfGo();
        DUE.end();
    }

    private static void is(String what, long got, long want) {
        DUE.is(what, got, want);
    }

    private static void at(String what, ChairTooFew x, int walker, int place, int parts) {
        is(what + ", PLACE of " + walker, x.of(walker, 0), place);
        is(what + ", parts of " + walker, x.of(walker, 1), parts);
    }

    /** A ring of 24 with CHAIRS; nothing stops for 98 TENTHS. */
    private static ChairTooFew chairs(int... places) {
        ChairTooFew x = new ChairTooFew();
        for (int place : places) x.chair(place);
        x.player(4, 99);
        return x;
    }

    private static int walker(ChairTooFew x, int place, int kind, int fast, int reach) {
        int w = x.walker(place, kind, fast);
        x.set(w, 2, reach);
        return w;
    }

    // "it goes on by SLOW parts, if its PLACE has a CHAIR, else by FAST"
    private static void slowOrFast() {
        ChairTooFew x = chairs(5);
        x.walker(5, PLAIN, 60);
        x.walker(9, PLAIN, 60);
        x.set(0, 1, 7);
        x.go(1);
        at("SLOW at a CHAIR", x, 0, 5, 7);
        at("FAST else", x, 1, 9, 60);
        x.chair(9);
        x.set(1, 1, 3);
        x.go(1);
        at("SLOW, as a CHAIR came", x, 1, 9, 63);
        ChairTooFew y = chairs(6);
        y.walker(5, PLAIN, 99);
        y.walker(12, PLAIN, 50);
        y.set(0, 1, 1);
        y.go(2);
        at("FAST to the PLACE of a CHAIR", y, 0, 6, 98);
        y.go(1);
        at("SLOW from there", y, 0, 6, 99);
        y.go(1);
        at("SLOW to the next", y, 0, 7, 0);
    }

    // "at 100 parts or more it comes to the next PLACE with 100 less"
    private static void hundredParts() {
        int[] fast = {33, 34, 49, 50, 51, 98, 99};
        int[] places = {1, 2, 2, 2, 2, 3, 3};
        int[] parts = {99, 2, 47, 50, 53, 94, 97};
        for (int i = 0; i < fast.length; i++) {
            ChairTooFew x = chairs(20);
            x.walker(1, PLAIN, fast[i]);
            x.walker(12, PLAIN, 1);
            x.go(3);
            at("FAST " + fast[i] + " three times", x, 0, places[i], parts[i]);
        }
        ChairTooFew x = chairs(20);
        x.walker(1, PLAIN, 99);
        x.walker(12, PLAIN, 1);
        x.go(1);
        at("99 are not enough", x, 0, 1, 99);
        x.set(0, 0, 1);
        x.go(1);
        at("100 are enough", x, 0, 2, 0);
        x.set(0, 0, 99);
        x.go(2);
        at("198 are one PLACE", x, 0, 3, 98);
    }

    // "if no WALKER that is IN is there; else it stays with 99 parts"
    private static void oneIsThere() {
        ChairTooFew x = chairs(20);
        x.walker(23, PLAIN, 99);
        x.walker(0, PLAIN, 1);
        x.go(2);
        at("gone round: one is there", x, 0, 23, 99);
        x.go(5);
        at("99 parts as long as it is there", x, 0, 23, 99);
        x.set(1, 0, 93);
        x.go(1);
        at("the one ahead is by numbers behind", x, 0, 23, 99);
        at("the one ahead went", x, 1, 1, 0);
        x.go(1);
        at("now it is free", x, 0, 0, 98);
    }

    // "WALKERS that are IN by numbers, each by all as it is then"
    private static void byNumbersAsItIsThen() {
        ChairTooFew x = chairs(20);
        for (int w = 0; w < 4; w++) x.walker(8 - w, PLAIN, 50);
        x.go(2);
        for (int w = 0; w < 4; w++) at("the one ahead has gone on", x, w, 9 - w, 0);
        ChairTooFew y = chairs(20);
        for (int w = 0; w < 4; w++) y.walker(5 + w, PLAIN, 50);
        y.go(2);
        for (int w = 0; w < 3; w++) at("the one ahead has not yet gone on", y, w, 5 + w, 99);
        at("nobody is ahead", y, 3, 9, 0);
        y.go(1);
        at("still there", y, 0, 5, 99);
        at("still there", y, 1, 6, 99);
        at("free since the TENTH ahead", y, 2, 8, 49);
    }

    // "if no WALKER that is IN is there"
    private static void whoIsNotInIsNotInTheWay() {
        ChairTooFew x = chairs(3, 4);
        walker(x, 4, PLAIN, 50, 0);
        walker(x, 14, PLAIN, 50, 0);
        walker(x, 13, PLAIN, 50, 0);
        is("who is farthest goes", x.stop(), 1);
        x.go(2);
        at("where one stands who is not IN", x, 2, 14, 0);
        at("who is not IN goes no step", x, 1, 14, 0);
        is("both are there", x.of(1, 0) - x.of(2, 0), 0);
    }

    private static void fullRing() {
        ChairTooFew x = new ChairTooFew();
        is("the least ring", Twin.read(x, "n4;c1;p4,99;"), 3);
        for (int p = 0; p < 4; p++) x.walker(p, PLAIN, 50 + p);
        x.go(50);
        for (int p = 0; p < 4; p++) at("no PLACE is free", x, p, p, 99);
        is("one at each at most", x.walker(2, PLAIN, 5), -3);
    }

    // "TENTHS of the ROUND are one more ahead of that"
    private static void tenthIsOneMoreAhead() {
        ChairTooFew x = chairs(0);
        x.walker(5, PLAIN, 50);
        x.walker(9, PLAIN, 50);
        x.walker(12, PLAIN, 50);
        x.player(4, 1);
        is("the first is 1", x.go(1), 1);
        x.player(4, 3);
        is("1, 2", x.go(2), 0);
        is("TENTHS of the ROUND", x.count(4), 2);
        is("3", x.go(1), 2);
    }

    // "A ROUND that went 300 TENTHS stops."
    private static void threeHundredTenths() {
        ChairTooFew x = chairs(0);
        for (int w = 0; w < 4; w++) x.walker(5 + w, PLAIN, 1);
        x.go(1);
        x.player(4, 1);
        is("298 more", x.go(298), 0);
        is("TENTHS", x.count(4), 299);
        is("the 300th", x.go(1), 1);
        is("0 TENTHS", x.count(4), 0);
        is("ROUNDS", x.count(5), 1);
        x.go(1);
        is("by TOLD 1", x.count(5), 2);
    }

    private static void threeHundredOfEachKind() {
        for (int kind = 0; kind < 5; kind++) {
            ChairTooFew x = chairs(0);
            for (int w = 0; w < 3; w++) x.walker(5 + w, PLAIN, 1);
            x.go(2);
            x.player(kind, 1);
            // A z of which no DRAW of 300 TENTHS is below 1 could not be told: each one by itself.
            int t = 2;
            int stopped = 0;
            while (stopped == 0 && t < 299) {
                x.seed(1);
                stopped = x.go(1);
                t++;
            }
            is("KIND " + kind + " till 299", stopped * 1000 + t, 299);
            x.seed(1);
            is("KIND " + kind + " in the 300th", x.go(1), 1);
        }
    }

    // "n TENTHS go by, till the ROUND stops"
    private static void goInPieces() {
        ChairTooFew all = chairs(0, 12);
        ChairTooFew pieces = chairs(0, 12);
        for (int w = 0; w < 4; w++) {
            all.walker(3 + 5 * w, w, 40 + w);
            pieces.walker(3 + 5 * w, w, 40 + w);
        }
        all.go(60);
        for (int i = 0; i < 60; i++) pieces.go(1);
        for (int w = 0; w < 4; w++) at("60 at once as one by one", all, w, pieces.of(w, 0), pieces.of(w, 1));
        is("as many TENTHS", all.count(4), pieces.count(4));
        is("no more than till the ROUND stops", all.go(300), 1);
        is("none of the next ROUND", all.count(4), 0);
        is("39 more", pieces.go(38) * 10 + pieces.go(1), 1);
        for (int w = 0; w < 4; w++) at("as it stopped", all, w, pieces.of(w, 0), pieces.of(w, 1));
    }

    // "CHAIRS that are free and no farther than REACH"
    private static void noFartherThanReach() {
        for (int reach = 0; reach <= 9; reach++) {
            ChairTooFew x = chairs(2);
            walker(x, 2 + reach, PLAIN, 50, reach);
            walker(x, (26 - reach - 1) % 24, PLAIN, 50, reach);
            is("as far as REACH " + reach, x.sits(0), 2);
            is("one farther than REACH " + reach, x.sits(1), -9);
            x.set(0, 2, Math.max(0, reach - 1));
            is("less REACH than " + reach, x.sits(0), reach > 0 ? -9 : 2);
            ChairTooFew y = chairs(2);
            walker(y, (26 - reach) % 24, PLAIN, 50, reach);
            is("gone round as far as REACH " + reach, y.sits(0), 2);
            y.set(0, 2, Math.max(0, reach - 1));
            is("gone round less REACH than " + reach, y.sits(0), reach > 0 ? -9 : 2);
        }
    }

    // "the pair of the least HASTE"
    private static void leastHasteFirst() {
        ChairTooFew x = chairs(10);
        x.walker(14, PLAIN, 50);
        x.walker(7, PLAIN, 50);
        is("6 is ahead of 8", x.sits(1), 10);
        is("8 gets none", x.sits(0), -9);
        ChairTooFew y = chairs(10, 12);
        y.walker(13, PLAIN, 50);
        y.walker(14, PLAIN, 50);
        is("the sooner one takes 12", y.sits(0), 12);
        is("the later one has 10 left", y.sits(1), 10);
        ChairTooFew z = chairs(0);
        z.walker(9, PLAIN, 99);
        z.walker(20, PLAIN, 40);
        is("not the nearer, the sooner: 9 by 99", z.sits(0), 0);
        z.set(1, 0, 50);
        is("8 against 9", z.sits(1), 0);
    }

    // "(of several the least WALKER,"
    private static void leastWalkerOfSeveral() {
        ChairTooFew x = chairs(10);
        x.walker(12, PLAIN, 50);
        x.walker(8, PLAIN, 50);
        x.walker(11, PLAIN, 25);
        is("4, 4 and 4: the first", x.sits(0), 10);
        x.set(0, 2, 1);
        is("the second, if the first has no REACH", x.sits(1), 10);
        x.set(1, 2, 1);
        is("the third", x.sits(2), 10);
        ChairTooFew y = chairs(4, 10);
        y.walker(11, PLAIN, 50);
        y.walker(5, PLAIN, 50);
        y.walker(9, PLAIN, 50);
        // All three have 2: the least WALKER is ahead of the least PLACE.
        is("the least WALKER first", y.sits(0), 10);
        is("the other CHAIR", y.sits(1), 4);
        is("none left", y.sits(2), -9);
    }

    // "then the least PLACE)"
    private static void leastPlaceOfSeveral() {
        ChairTooFew x = chairs(14, 8);
        x.walker(11, PLAIN, 50);
        is("8 and 14 are as far", x.sits(0), 8);
        ChairTooFew y = chairs(2, 20);
        y.walker(23, PLAIN, 50);
        is("gone round: 2 and 20 are as far", y.sits(0), 2);
        ChairTooFew z = chairs(0, 1, 23);
        z.walker(0, 5, 99);
        is("HASTE 0 for all: the least PLACE", z.sits(0), 0);
        z.set(0, 0, 50);
        z.set(0, 3, 9);
        ChairTooFew far = chairs(21, 3);
        far.walker(1, 1, 50);
        far.set(0, 3, 9);
        is("HASTE 0 for both, though one is nearer", far.sits(0), 3);
        ChairTooFew low = chairs(21, 23);
        low.walker(0, 1, 50);
        low.set(0, 3, 9);
        is("HASTE 0 for both, the farther has the least PLACE", low.sits(0), 21);
    }

    // "again, till there is no such pair"
    private static void againTillThereIsNone() {
        ChairTooFew x = chairs(0, 2, 4, 6, 8, 10, 12, 14, 16, 18, 20);
        for (int w = 0; w < 12; w++) x.walker(2 * w, PLAIN, 50);
        for (int w = 0; w < 11; w++) is("each at its own", x.sits(w), 2 * w);
        is("one too few", x.sits(11), -9);
        is("who goes", x.would(0), 11);
        ChairTooFew more = chairs(0, 1, 2, 3);
        more.walker(2, PLAIN, 50);
        more.walker(3, PLAIN, 50);
        is("more CHAIRS than WALKERS", more.sits(0) * 10 + more.sits(1), 23);
        is("so nobody goes", more.would(0), -9);
        ChairTooFew none = chairs();
        none.walker(2, PLAIN, 50);
        is("no CHAIR", none.sits(0), -9);
    }

    /** One JUDGED of HASTE so at the CHAIR, one that does not sit and has HASTE 10 for it. */
    private static ChairTooFew judged(int size, int manners) {
        ChairTooFew x = chairs(10);
        x.walker(10, JUDGED, 50);
        x.set(0, 3, size);
        x.set(0, 4, manners);
        x.walker(15, PLAIN, 50);
        return x;
    }

    // "while some WALKER that does not sit has as little HASTE for that CHAIR"
    private static void asLittleHaste() {
        is("10 against 10: it gives it", judged(5, 5).sits(1), 10);
        is("10 against 10: it does not sit then", judged(5, 5).sits(0), -9);
        is("9 against 10: it keeps it", judged(5, 4).sits(0), 10);
        is("9 against 10: none for the other", judged(5, 4).sits(1), -9);
        is("11 against 10: the other sits at once", judged(6, 5).sits(1), 10);
        is("who would go is who gave", judged(5, 5).would(0), 0);
        is("who would go is who got none", judged(5, 4).would(0), 1);
        ChairTooFew goes = judged(5, 5);
        is("who gave goes", goes.stop(), 0);
        for (int kind = 0; kind < 6; kind++) {
            ChairTooFew x = judged(9, 0);
            x.set(0, 5, kind);
            // Of LAPPED it is 9, of the others 0; a PLAIN of the same.
            x.set(1, 5, kind == LAPPED ? PLAIN : kind);
            x.set(1, 0, kind == LAPPED ? 55 : 99);
            x.set(1, 3, 9);
            is("only a JUDGED gives: KIND " + kind, x.sits(0), 10);
        }
    }

    // "and it within REACH"
    private static void withinReachOfTheChair() {
        ChairTooFew x = judged(5, 5);
        x.set(1, 2, 5);
        is("it is within REACH", x.sits(1), 10);
        x.set(1, 2, 4);
        is("it is not", x.sits(1), -9);
        is("so it stays", x.sits(0), 10);
        x.set(0, 2, 0);
        is("the REACH of the giver does not matter", x.sits(0), 10);
        x.set(1, 2, 5);
        is("the REACH of the giver does not matter", x.sits(1), 10);
    }

    // "gives it to the one of the least number of these"
    private static void leastNumberOfThese() {
        ChairTooFew x = judged(5, 5);
        x.walker(5, PLAIN, 50);
        x.walker(9, LAPPED, 20);
        is("1, 2 and 3 have 10: the least", x.sits(1), 10);
        is("not another", x.sits(2) + x.sits(3), -18);
        x.set(1, 2, 4);
        is("the least of those who reach it", x.sits(2), 10);
        x.set(2, 0, 49);
        x.set(2, 2, 9);
        is("10 by 49, too, cut", x.sits(2), 10);
        x.set(2, 0, 45);
        is("11 is more", x.sits(3), 10);
        // One of a lesser number than the giver: it had as little and would have sat first, so it must be a giver.
        ChairTooFew y = chairs(10, 12);
        y.walker(12, JUDGED, 50);
        y.set(0, 3, 1);
        y.set(0, 4, 1);
        y.walker(10, JUDGED, 50);
        y.set(1, 3, 5);
        y.set(1, 4, 5);
        walker(y, 13, PLAIN, 99, 1);
        // 0: 2 at 12, 6 for 10; 1: 10 at 10; 2: 1 for 12.
        is("2 sits at 12 by 1", y.sits(2), 12);
        is("0 has 10 left", y.sits(0), 10);
        is("1 gets none", y.sits(1), -9);
    }

    // "(by numbers, each as it is then, once, .."
    private static void byNumbersOnce() {
        ChairTooFew x = chairs(10);
        x.walker(10, JUDGED, 50);
        x.walker(11, JUDGED, 50);
        x.set(1, 4, 3);
        is("0 gives to 1, and 1 gives back", x.sits(0), 10);
        x.set(1, 5, LAPPED);
        x.set(1, 3, 8);
        is("a LAPPED with as little keeps it", x.sits(1), 10);
        ChairTooFew down = chairs(10);
        down.walker(11, JUDGED, 50);
        down.set(0, 4, 3);
        down.set(0, 2, 0);
        down.walker(10, JUDGED, 50);
        is("1 sits, 0 does not reach it", down.sits(1), 10);
        down.set(0, 2, 9);
        is("0 sits first, gives it to 1, who gives it back", down.sits(0), 10);
        is("back", down.sits(1), -9);
        // 0 gives to 1, 1 to 0; 2 has as little, but 0 has had its turn.
        x.set(1, 5, JUDGED);
        x.set(1, 3, 5);
        x.walker(15, PLAIN, 50);
        is("once each", x.sits(0), 10);
        is("not to the other", x.sits(2), -9);
        // 0 and 1 give theirs to 3 and 4, 2 gives its to 0; 1 is nearer there than 0, who has had its turn.
        ChairTooFew turn = chairs(8, 12, 17);
        turn.walker(16, JUDGED, 50);
        turn.walker(9, JUDGED, 50);
        turn.walker(6, JUDGED, 50);
        for (int w = 0; w < 3; w++) for (int what = 3; what < 5; what++) turn.set(w, what, 0);
        walker(turn, 18, PLAIN, 50, 1);
        walker(turn, 7, PLAIN, 50, 1);
        is("who got the CHAIR behind its turn keeps it", turn.sits(0), 12);
        is("who is nearer gets none", turn.sits(1), -9);
        is("who gave it", turn.sits(2), -9);
        is("to whom 0 gave", turn.sits(3), 17);
        is("to whom 1 gave", turn.sits(4), 8);
    }

    // "when all are seated)"
    private static void whenAllAreSeated() {
        ChairTooFew x = chairs(10, 16);
        x.walker(10, JUDGED, 50);
        x.walker(15, PLAIN, 50);
        // 1 has 10 for the CHAIR at 10, but sits at 16 by 2 when it comes to giving.
        is("it sits elsewhere", x.sits(1), 16);
        is("so nothing is given", x.sits(0), 10);
        ChairTooFew y = chairs(10, 1);
        y.walker(10, JUDGED, 50);
        y.walker(15, PLAIN, 50);
        // 1 does not reach the CHAIR at 1; who gave does, but all are seated by then.
        is("given", y.sits(1), 10);
        is("who gave has none", y.sits(0), -9);
        ChairTooFew z = chairs(10, 12);
        z.walker(10, JUDGED, 50);
        walker(z, 15, PLAIN, 50, 5);
        walker(z, 12, MISSED, 50, 0);
        is("12 is taken", z.sits(2), 12);
        is("10 is given", z.sits(1), 10);
        is("who gave stays without", z.sits(0), -9);
    }

    // All twelve: one that sits looks through all the others for one that has as little HASTE.
    private static void judgedOfTwelve() {
        ChairTooFew x = new ChairTooFew();
        is("twelve", Twin.read(x, "c0;p4,99;"), 2);
        x.walker(0, JUDGED, 50);
        for (int w = 1; w < 12; w++) walker(x, w, PLAIN, 50, w < 6 ? 0 : 9);
        is("10 of the twelfth's 22 is less", x.sits(0), 0);
        x.set(11, 0, 99);
        x.set(11, 5, 5);
        x.set(11, 3, 0);
        is("out of REACH", x.sits(0), 0);
        ChairTooFew y = new ChairTooFew();
        y.chair(0);
        y.walker(0, JUDGED, 50);
        for (int w = 1; w < 11; w++) walker(y, w + 5, PLAIN, 50, 0);
        walker(y, 19, PLAIN, 50, 5);
        is("the twelfth has 10, too", y.sits(11), 0);
        is("who gave it", y.sits(0), -9);
    }

    private static void onlyWhoDoesNotSitGets() {
        ChairTooFew x = chairs(10, 14);
        x.walker(10, JUDGED, 50);
        x.walker(14, PLAIN, 50);
        x.set(0, 4, 9);
        x.set(0, 3, 9);
        // 1 has 8 for the CHAIR at 10, less than 18, but sits.
        is("0 keeps it", x.sits(0), 10);
        is("1 keeps its own", x.sits(1), 14);
        ChairTooFew gone = chairs(10, 0);
        gone.walker(10, PLAIN, 50);
        walker(gone, 15, PLAIN, 50, 0);
        walker(gone, 13, PLAIN, 50, 0);
        gone.form(0);
        is("1 goes", gone.stop(), 1);
        gone.set(0, 5, JUDGED);
        gone.set(1, 2, 9);
        is("who is not IN gets nothing", gone.sits(0), 10);
    }

    // "the one who is farthest from the CHAIRS (the least FAR to any of them is greatest)"
    private static void farthestGoes() {
        ChairTooFew x = chairs(0);
        walker(x, 12, PLAIN, 50, 0);
        walker(x, 11, PLAIN, 50, 0);
        walker(x, 14, PLAIN, 50, 0);
        is("12 from it", x.would(0), 0);
        x.set(0, 2, 9);
        is("REACH 9 is not 12", x.would(0), 0);
        ChairTooFew y = chairs(0);
        walker(y, 13, PLAIN, 50, 0);
        walker(y, 10, PLAIN, 50, 0);
        is("11 the lesser way", y.would(0), 0);
        ChairTooFew hasty = chairs(0);
        walker(hasty, 5, PLAIN, 99, 0);
        walker(hasty, 4, MISSED, 1, 0);
        is("FAR, not HASTE", hasty.would(0), 0);
    }

    // "the least FAR to any of them"
    private static void nearestChairCounts() {
        ChairTooFew x = chairs(0, 12);
        walker(x, 11, PLAIN, 50, 0);
        walker(x, 2, PLAIN, 50, 0);
        is("1 and 2", x.would(0), 1);
        x.chair(3);
        is("1 and 1: the greatest number", x.would(0), 1);
        x.chair(2);
        is("who sits does not go", x.would(0), 0);
        ChairTooFew taken = chairs(5);
        taken.walker(5, PLAIN, 50);
        walker(taken, 4, PLAIN, 50, 3);
        walker(taken, 7, PLAIN, 50, 3);
        is("CHAIRS on which others sit are counted, too", taken.would(0), 2);
    }

    // "of several the one of the greatest number"
    private static void greatestNumberGoes() {
        ChairTooFew x = chairs(0);
        int[] places = {5, 6, 18, 19, 3};
        for (int place : places) walker(x, place, PLAIN, 50, 0);
        is("6 and 6: the greater number", x.would(0), 2);
        is("it goes", x.stop(), 2);
        is("then the other", x.stop(), 1);
        is("5 and 5", x.stop(), 3);
        is("then", x.stop(), 0);
        is("ENDED", x.stop(), -3);
        is("the last one is IN", x.of(4, 2), 1);
    }

    // "nobody, if all sit"
    private static void nobodyIfAllSit() {
        ChairTooFew x = chairs(3, 9);
        x.walker(4, PLAIN, 50);
        x.walker(10, PLAIN, 50);
        is("nobody", x.would(0), -9);
        x.set(1, 2, 0);
        is("one does not", x.would(0), 1);
        x.set(1, 2, 1);
        is("nobody", x.stop(), -9);
        is("all are IN", x.count(3), 2);
    }

    // WHICH CHAIR, if there is one
    private static void formsOfOne() {
        for (int form = 0; form < 3; form++) {
            ChairTooFew x = chairs(5);
            walker(x, 1, PLAIN, 50, 0);
            walker(x, 2, PLAIN, 50, 0);
            walker(x, 3, PLAIN, 50, 0);
            x.form(form);
            is("one CHAIR does not go by FORM " + form, x.would(1), -9);
            is("somebody goes", x.stop(), 0);
            is("the CHAIR is there", x.has(5) + x.count(1), 2);
        }
    }

    private static int leaving(int form, int... places) {
        ChairTooFew x = chairs(places);
        walker(x, 22, PLAIN, 50, 0);
        walker(x, 20, PLAIN, 50, 0);
        x.form(form);
        int would = x.would(1);
        x.stop();
        is("it went", x.has(would), 0);
        is("no other went", x.count(1), places.length - 1);
        return would;
    }

    // "0 the one at the least PLACE (at first), 1 at the greatest"
    private static void leastOrGreatestPlace() {
        is("FORM 0", leaving(0, 3, 0, 23), 0);
        is("FORM 1", leaving(1, 3, 0, 23), 23);
        is("FORM 0", leaving(0, 7, 6), 6);
        is("FORM 1", leaving(1, 6, 7), 7);
        is("FORM 0 of 11", leaving(0, 11, 10, 9, 8, 7, 6, 5, 4, 3, 2, 1), 1);
        is("FORM 1 of 11", leaving(1, 1, 2, 3, 4, 5, 6, 7, 8, 9, 10, 11), 11);
        ChairTooFew first = chairs(9, 8, 7, 4);
        walker(first, 22, PLAIN, 50, 0);
        walker(first, 20, PLAIN, 50, 0);
        is("0 at first", first.would(1), 4);
    }

    // "2 the one whose two neighbours (next CHAIRS, gone round) are nearest together .., of several the least PLACE"
    private static void nearestTogether() {
        is("two: as near, the least PLACE", leaving(2, 15, 4), 4);
        is("three: the one in the midst", leaving(2, 4, 5, 6), 5);
        is("gone round: 0 is in the midst", leaving(2, 23, 0, 1), 0);
        is("gone round: 23 is in the midst", leaving(2, 22, 23, 0), 23);
        is("as near: the least PLACE", leaving(2, 0, 8, 16), 0);
        is("as near, in another order", leaving(2, 16, 8, 0), 0);
        is("two of four: the least PLACE", leaving(2, 3, 4, 5, 6), 4);
        is("one step more", leaving(2, 3, 5, 6, 8, 9, 10, 20), 9);
        is("the last and the first, by ways added", leaving(2, 2, 11, 12, 21), 11);
        is("all of 11 but for one way", leaving(2, 0, 2, 4, 6, 8, 10, 12, 14, 16, 18, 20), 2);
    }

    // "a CHAIR goes (if somebody GOES, ..)"
    private static void chairGoesIfSomebodyGoes() {
        ChairTooFew x = chairs(3, 9, 15);
        x.walker(4, PLAIN, 50);
        x.walker(10, PLAIN, 50);
        is("none would go", x.would(1), -9);
        is("nobody goes", x.stop(), -9);
        is("no CHAIR goes", x.count(1), 3);
    }

    // "while there is more than one"
    private static void lastChairStays() {
        ChairTooFew x = chairs(3, 9);
        for (int w = 0; w < 4; w++) walker(x, 12 + w, PLAIN, 50, 0);
        is("of two one goes", x.would(1), 3);
        x.stop();
        is("one is left", x.count(1), 1);
        is("it stays", x.would(1), -9);
        x.stop();
        is("it stays", x.count(1) * 10 + x.has(9), 11);
        is("two are IN", x.count(3), 2);
    }

    // "all stay where they are"
    private static void allStayWhereTheyAre() {
        ChairTooFew x = chairs(3, 9);
        for (int w = 0; w < 4; w++) x.walker(4 + 4 * w, PLAIN, 30 + w);
        x.go(5);
        int[] of = new int[8];
        for (int w = 0; w < 4; w++) {
            of[2 * w] = x.of(w, 0);
            of[2 * w + 1] = x.of(w, 1);
        }
        x.stop();
        for (int w = 0; w < 4; w++) at("who sat and who went", x, w, of[2 * w], of[2 * w + 1]);
    }

    // "the next ROUND begins (0 TENTHS)"
    private static void nextRoundBegins() {
        ChairTooFew x = chairs(3, 9);
        for (int w = 0; w < 4; w++) x.walker(4 + 4 * w, PLAIN, 30 + w);
        x.go(5);
        is("5 TENTHS", x.count(4), 5);
        x.stop();
        is("0 TENTHS", x.count(4), 0);
        is("1 ROUND", x.count(5), 1);
        x.stop();
        is("2 ROUNDS", x.count(5), 2);
        x.go(1);
        is("1 TENTH", x.count(4), 1);
    }

    // "The PARTY ENDS, when one is IN"
    private static void endsWhenOneIsIn() {
        ChairTooFew x = chairs(3);
        for (int w = 0; w < 3; w++) walker(x, 12 + w, PLAIN, 50, 0);
        x.player(4, 1);
        is("two are IN: it goes on", x.go(1), 1);
        is("one is IN: it ENDED", x.go(1), 2);
        is("IN", x.count(3), 1);
        is("no more", x.go(1), -3);
        is("no more", x.stop(), -3);
    }

    // "or nobody GOES"
    private static void endsWhenNobodyGoes() {
        ChairTooFew x = chairs(3, 9, 15);
        for (int w = 0; w < 3; w++) walker(x, 3 + 6 * w, PLAIN, 1, 9);
        x.player(4, 1);
        is("it ENDED", x.go(1), 2);
        is("all are IN", x.count(3), 3);
        is("no more", x.go(1), -3);
        is("no more", x.stop(), -3);
        x.seed(5);
        x.form(1);
        x.player(0, 99);
        x.set(0, 2, 0);
        x.image();
        is("still ENDED", x.stop(), -3);
    }

    // "(A CHAIR, a WALKER that comes lets it go on.)"
    private static void goesOnByWhatComes() {
        ChairTooFew x = chairs(3, 9);
        x.walker(3, PLAIN, 50);
        x.walker(9, PLAIN, 50);
        is("ENDED", x.stop(), -9);
        is("refused, nothing came", x.chair(3), -3);
        is("still ENDED", x.stop(), -3);
        is("refused, nobody came", x.walker(3, PLAIN, 50), -3);
        is("still ENDED", x.stop(), -3);
        x.chair(5);
        is("a CHAIR came", x.stop(), -9);
        is("ENDED again", x.stop(), -3);
        x.walker(20, PLAIN, 50);
        is("a WALKER came", x.stop(), -9);
        is("ENDED again", x.stop(), -3);
        x.walker(14, PLAIN, 50);
        is("another came, and GOES", x.stop(), 3);
        is("it goes on", x.go(1) >= 0 ? 1 : 0, 1);
        ChairTooFew one = chairs(3);
        one.walker(3, PLAIN, 50);
        one.walker(9, PLAIN, 50);
        is("one is left", one.stop(), 1);
        one.chair(4);
        is("a CHAIR is not enough: fewer than two", one.stop(), -3);
        one.walker(12, PLAIN, 50);
        is("a WALKER is", one.stop() >= -9 ? 1 : 0, 1);
    }

    // "1 if it did (all of it came), 2 the PARTY ENDED by that, 0"
    private static void answersOfGo() {
        ChairTooFew x = chairs(3, 9, 15);
        for (int w = 0; w < 4; w++) x.walker(1 + w, PLAIN, 50);
        x.player(4, 4);
        is("0: it did not stop", x.go(3), 0);
        is("1: it stopped", x.go(1), 1);
        is("all of it came: a CHAIR", x.count(1), 2);
        is("all of it came: who went", x.count(3), 3);
        is("1: in the midst of n", x.go(200), 1);
        is("2: it ENDED by that", x.go(300), 2);
        is("who is IN", x.count(3), 1);
    }
}
