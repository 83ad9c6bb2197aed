/** The edges that ==== III. names of what is in mind, of rows, films and the image, a method a sentence. */
public final class MindEdgeTest {
    private static final Due DUE = new Due("MindEdgeTest");
    private static final int PLAIN = 0;
    private static final int RACED = 1;

    public static void main(String[] args) {
        sitsOrNone();
        oddsOfOneTenth();
        oddsOfTwoHundred();
        playerNeverStops();
        pastTheThreeHundredth();
        oddsBehindTheTenth();
        fairOfAllThatAreIn();
        bestSlowOfNine();
        bestSlowOfSeveral();
        cheatOfTen();
        cheatOfNone();
        ofOneThatWent();
        lastsWholeParty();
        lastsFromAllAsItIs();
        lastsLongest();
        noWinner();
        seedsInARow();
        fairestOfSeveral();
        fairestByTenths();
        shortestOfSeveral();
        couldByEachKind();
        couldOfTheThreeHundredth();
        nextIsCut();
        teamOfTwo();
        holdWithinReach();
        filmOfSixty();
        filmFirstWrong();
        imageOfAll();
        imageWithoutWhoCameBehindIt();
        imageButIt();
        mindChangesNothing();
        DUE.end();
    }

    private static void is(String what, long got, long want) {
        DUE.is(what, got, want);
    }

    private static int walker(ChairTooFew x, int place, int kind, int fast, int reach) {
        int w = x.walker(place, kind, fast);
        x.set(w, 2, reach);
        return w;
    }

    private static ChairTooFew read(String text) {
        ChairTooFew x = new ChairTooFew();
        is(text, x.count(0) > 0 && Twin.read(x, text) > 0 ? 1 : 0, 1);
        return x;
    }

    // "SITS of a WALKER, if it stopped now: the PLACE; -9 none."
    private static void sitsOrNone() {
        ChairTooFew x = read("c0;c23;w1,0,50;w22,0,50;w12,0,50;");
        is("the least PLACE there is", x.sits(0), 0);
        is("the greatest", x.sits(1), 23);
        is("none", x.sits(2), -9);
        is("it did not stop", x.count(5), 0);
    }

    // "in how many of the next n TENTHS (1 .. 200;"
    private static void oddsOfOneTenth() {
        ChairTooFew x = read("c0;w9,0,99;");
        x.set(0, 0, 99);
        is("as it is, it sits", x.sits(0), 0);
        is("behind one TENTH, too", x.odds(0, 1), 1);
        is("not behind the second", x.odds(0, 2), 1);
        ChairTooFew y = read("c0;w14,0,50;");
        is("as it is, it does not sit", y.sits(0), -9);
        is("not behind one", y.odds(0, 1), 0);
        is("behind the second", y.odds(0, 2), 1);
    }

    private static void oddsOfTwoHundred() {
        is("always", read("n4;c0;w1,0,50;").odds(0, 200), 200);
        is("all but one", read("n4;c0;w1,0,50;").odds(0, 199), 199);
        is("never: no CHAIR", read("n4;w1,0,50;").odds(0, 200), 0);
        ChairTooFew x = read("n60;c0;w10,0,1;");
        is("never: too far", x.odds(0, 200), 0);
        ChairTooFew y = read("n60;c0;w49,0,1;");
        is("from the 200th on", y.odds(0, 200), 1);
        is("not ahead of it", y.odds(0, 199), 0);
        y.walker(20, PLAIN, 1);
        y.player(4, 99);
        y.go(1);
        is("from the 199th on", y.odds(0, 199), 1);
        is("not ahead of it", y.odds(0, 198), 0);
        is("two", y.odds(0, 200), 2);
    }

    // "THE PLAYER never stops)"
    private static void playerNeverStops() {
        for (int kind = 0; kind < 5; kind++) {
            ChairTooFew x = read("n4;c0;c2;w0,0,50;w2,0,50;w1,0,50;");
            x.player(4, 99);
            x.go(97);
            x.player(4, 98);
            x.player(kind, kind == 4 ? 98 : 99);
            int odds = 0;
            for (int w = 0; w < 3; w++) odds += x.odds(w, 200);
            is("two CHAIRS 200 times, KIND " + kind, odds, 400);
            is("no DRAW came", x.seed(1), zBehind(97));
        }
        ChairTooFew late = read("n4;c0;w0,0,50;w2,0,50;");
        late.player(4, 99);
        late.go(98);
        late.player(4, 98);
        late.go(201);
        is("TENTHS", late.count(4), 299);
        is("past the 300th", late.odds(0, 200) + late.odds(1, 200), 200);
        for (int i = 0; i < 60; i++) late.film(0);
        is("a FILM goes past the 300th", late.judge(0) >= -9 ? late.count(7) : -1, 0);
        is("it did not stop", late.count(5), 0);
    }

    private static ChairTooFew atTwoHundredNinety() {
        ChairTooFew x = read("n60;c35;w0,0,10;w50,0,1;p3,1;");
        x.set(0, 2, 0);
        x.set(1, 2, 0);
        is("LIKING one who comes to no CHAIR", x.go(290), 0);
        return x;
    }

    // "THE PLAYER never stops" though the 300th TENTH of the ROUND is among them: they go on behind it.
    private static void pastTheThreeHundredth() {
        // 0 comes to 35 in the 350th TENTH of the ROUND and leaves in the 370th, by SLOW 5.
        is("the 349th", atTwoHundredNinety().odds(0, 59), 0);
        is("the 350th", atTwoHundredNinety().odds(0, 60), 1);
        is("the 369th", atTwoHundredNinety().odds(0, 79), 20);
        is("the 370th", atTwoHundredNinety().odds(0, 80), 20);
        is("the 490th", atTwoHundredNinety().odds(0, 200), 20);
        is("FAIR", atTwoHundredNinety().fair(200), 20);
        is("TEAM", atTwoHundredNinety().team(1, 0, 200, 1), 20);
        is("CHEAT", atTwoHundredNinety().cheat(0, 200), 80);
        ChairTooFew x = atTwoHundredNinety();
        for (int t = 291; t <= 350; t++) x.film(t / 10);
        is("a FILM", x.judge(0), -9);
        for (int t = 291; t <= 350; t++) x.film(t < 350 ? t / 10 : 34);
        is("a FILM wrong at the 350th", x.judge(0), 59);
    }

    private static int zBehind(int tenths) {
        int z = 1;
        for (int t = 0; t < tenths; t++) z = z * 1103515245 + 12345;
        return z;
    }

    private static ChairTooFew twoAtOne() {
        ChairTooFew x = read("c5;w4,0,50;w6,0,25;p4,99;");
        x.set(0, 2, 0);
        x.set(1, 2, 1);
        return x;
    }

    // "it would sit, if it stopped behind that one"
    private static void oddsBehindTheTenth() {
        // 0 is at 5 from the 2nd to the 5th TENTH by SLOW 25; 1 is at 6 till the 3rd.
        is("the one that is there takes it", twoAtOne().odds(0, 2), 1);
        is("the other ahead of that", twoAtOne().odds(1, 2), 1);
        is("four by SLOW", twoAtOne().odds(0, 12), 4);
        is("no more, as the other is there", twoAtOne().odds(1, 12), 1);
        int[] sum = new int[2];
        for (int t = 1; t <= 60; t++) {
            ChairTooFew then = twoAtOne();
            then.go(t);
            for (int w = 0; w < 2; w++) {
                sum[w] += then.sits(w) >= 0 ? 1 : 0;
                is("as SITS told behind 1 .. " + t, twoAtOne().odds(w, t), sum[w]);
            }
        }
    }

    // "FAIR: the greatest of the ODDS of all that are IN less the least."
    private static void fairOfAllThatAreIn() {
        ChairTooFew x = read("n4;c0;w0,0,1;w1,0,1;w2,0,1;");
        for (int w = 0; w < 3; w++) x.set(w, 2, 0);
        // 0 sits as long as it is at 0; 1, 2 never in 99 TENTHS.
        is("one TENTH", x.fair(1), 1);
        is("99", x.fair(99), 99);
        is("100: it is in the way of nobody, but 1 is", x.fair(100), 100);
        is("200", x.fair(200), x.odds(0, 200));
        ChairTooFew two = read("n4;c0;c1;w0,0,1;w1,0,1;");
        is("all as often", two.fair(200), 0);
        two.stop();
        is("ENDED matters not", two.fair(200), 0);
        ChairTooFew gone = read("n8;c0;c1;w0,0,1;w1,0,1;w4,0,1;f2;p4,99;");
        for (int w = 0; w < 3; w++) gone.set(w, 2, 1);
        is("one never, two always", gone.fair(99), 99);
        is("the one GOES", gone.stop(), 2);
        gone.chair(0);
        is("two always; one who is not IN does not count", gone.fair(99), 0);
        is("all never", read("n4;w0,0,1;w1,0,1;").fair(200), 0);
    }

    // "of 10, 20, .. 90 that by which its ODDS are greatest"
    private static void bestSlowOfNine() {
        for (int best = 10; best <= 90; best += 10) {
            ChairTooFew x = wants(100 - best);
            is("with " + (100 - best) + " parts", x.bestSlow(0, 1), best);
            is("SLOW stayed", x.of(0, 5), 1);
            ChairTooFew y = wants(Math.max(0, 101 - best));
            is("with a part more", y.bestSlow(0, 1), best);
            ChairTooFew less = wants(99 - best);
            is("with a part less", less.bestSlow(0, 1), best < 90 ? best + 10 : 10);
        }
    }

    /**
     * 0 has so many parts and stands at a CHAIR that 1 takes always, by HASTE 0 against 9; it reaches no
     * other, but at the next PLACE there is one that 1 leaves to it.
     */
    private static ChairTooFew wants(int parts) {
        ChairTooFew x = new ChairTooFew();
        x.player(4, 99);
        x.walker(10, 2, Math.max(1, Math.min(99, parts)));
        x.walker(15, RACED, 1);
        x.chair(20);
        if (parts > 0) x.go(1);
        is("parts", x.of(0, 1), Math.min(99, parts));
        x.chair(10);
        x.chair(11);
        x.chair(15);
        x.set(0, 0, 50);
        x.set(0, 1, 1);
        x.set(0, 2, 0);
        x.set(0, 3, 9);
        x.set(1, 0, 99);
        x.set(1, 1, 1);
        x.set(1, 3, 9);
        return x;
    }

    // ", of several the least."
    private static void bestSlowOfSeveral() {
        is("all never", read("n4;w0,0,50;").bestSlow(0, 200), 10);
        is("all always", read("n4;c0;w0,0,50;").bestSlow(0, 200), 10);
        ChairTooFew x = wants(100 - 40);
        is("40 .. 90 are as good", x.bestSlow(0, 1), 40);
    }

    // "its ODDS with the least of 1, 11, .. 91 (as SLOW) by which they are more than now, less now's"
    private static void cheatOfTen() {
        for (int slow = 1; slow <= 91; slow += 10) {
            ChairTooFew x = wants(100 - slow);
            is("with " + (100 - slow) + " parts by " + slow, x.cheat(0, 1), slow == 1 ? 0 : 1);
            is("SLOW stayed", x.of(0, 5), 1);
            ChairTooFew less = wants(99 - slow);
            is("with a part less", less.cheat(0, 1), slow == 91 || slow == 1 && less.of(0, 1) > 98 ? 0 : 1);
        }
        // By 11 it comes in the 10th TENTH, by 21 in the 5th (and goes on in the 10th), by 51 in the 2nd.
        ChairTooFew y = wants(0);
        is("by 1 not in 12", y.odds(0, 12), 0);
        is("by 11 in the 10th", y.cheat(0, 10), 1);
        is("the least of them, not the best", y.cheat(0, 12), 3);
        is("by 21 in the 5th", y.cheat(0, 9), 5);
        is("by 51 in the 2nd", y.cheat(0, 2), 1);
        is("none in the first", y.cheat(0, 1), 0);
        y.set(0, 1, 11);
        is("now's are three, by 21 five", y.cheat(0, 12), 5 - 3);
        y.set(0, 1, 99);
        is("as many as now are none", y.cheat(0, 2), 0);
    }

    /** BEST SLOW, CHEAT and WINS do not say "not IN, too": one that went sits in no TENTH and never wins. */
    private static void ofOneThatWent() {
        ChairTooFew x = busy();
        int gone = 0;
        while (gone < 3 && x.of(gone, 2) == 1) gone++;
        is("not IN", x.of(gone, 2), 0);
        is("all as bad: the least", x.bestSlow(gone, 200), 10);
        is("none", x.cheat(gone, 200), 0);
        is("never", x.wins(gone, 20, 1), 0);
    }

    // "0 none."
    private static void cheatOfNone() {
        is("always sits", read("n4;c0;w0,0,50;").cheat(0, 200), 0);
        is("never sits", read("n4;w0,0,50;").cheat(0, 200), 0);
        ChairTooFew x = read("n60;c0;w0,0,50;");
        x.set(0, 2, 0);
        x.set(0, 1, 1);
        is("less is none", x.cheat(0, 100), 0);
        x.set(0, 1, 2);
        is("by 2 it stays 49 TENTHS", x.odds(0, 100), 49);
        is("by 1 it stays 99", x.cheat(0, 100), 50);
    }

    // "LASTS: TENTHS of the whole PARTY, ROUNDS, WINNER"
    private static void lastsWholeParty() {
        ChairTooFew x = read("c0;c8;c16;w0,0,50;w8,0,50;w16,0,50;w4,0,50;p4,1;");
        is("TENTHS", x.lasts(0), 3);
        is("ROUNDS", x.lasts(1), 3);
        int winner = x.lasts(2);
        for (int round = 1; round <= 3; round++) is("goes", x.go(1), round < 3 ? 1 : 2);
        for (int w = 0; w < 4; w++) is("who is IN", x.of(w, 2), w == winner ? 1 : 0);
    }

    // "In mind, from all as it is"
    private static void lastsFromAllAsItIs() {
        ChairTooFew x = read("c0;c8;c16;w0,0,50;w8,0,50;w16,0,50;w4,0,50;p4,20;");
        is("60 TENTHS", x.lasts(0), 60);
        x.go(5);
        is("behind five", x.lasts(0), 55);
        x.go(15);
        is("behind a ROUND", x.lasts(0), 40);
        is("two ROUNDS", x.lasts(1), 2);
        x.go(20);
        is("behind two", x.lasts(0), 20);
        is("one ROUND", x.lasts(1), 1);
        x.go(3);
        x.player(4, 2);
        is("till the 300th", x.lasts(0), 297);
    }

    private static void lastsLongest() {
        ChairTooFew x = read("n60;c59;");
        for (int w = 0; w < 12; w++) x.walker(w, PLAIN, 1);
        x.player(3, 12);
        // 0 comes to 59 not in 3300 TENTHS of FAST 1.
        is("eleven ROUNDS of 300", x.lasts(0), 3300);
        is("eleven", x.lasts(1), 11);
        is("somebody is the WINNER", x.lasts(2) >= 0 ? 1 : 0, 1);
        is("all by one seed", x.wins(x.lasts(2), 20, 1), 20);
    }

    // "WINNER (-9)"
    private static void noWinner() {
        ChairTooFew x = read("c0;c8;w0,0,50;w8,0,50;p4,3;");
        is("all sit", x.lasts(2), -9);
        is("one ROUND", x.lasts(1), 1);
        is("no WINNER of any seed", x.wins(0, 20, 1) + x.wins(1, 20, 1), 0);
        is("no WINNERS at all: the least FORM", x.fairest(20, 1), 0);
    }

    /** A PARTY whose WINNER is a matter of draws. */
    private static ChairTooFew lively() {
        ChairTooFew x = read("c0;c7;c16;w3,0,90;w4,1,70;w11,2,40;w20,6,55;");
        for (int w = 0; w < 4; w++) x.set(w, 2, 3);
        return x;
    }

    private static int winnerOf(ChairTooFew x, int z) {
        x.seed(z);
        return x.lasts(2);
    }

    // "Of seeds z, z and 1, .. (n of them, 1 .. 20)"
    private static void seedsInARow() {
        int[] firsts = {1, -3, Integer.MAX_VALUE, Integer.MAX_VALUE - 4, Integer.MIN_VALUE};
        int[] lengths = {1, 2, 20};
        for (int first : firsts) {
            for (int n : lengths) {
                ChairTooFew x = lively();
                int[] won = new int[4];
                for (int i = 0; i < n; i++) {
                    int winner = winnerOf(x, first + i);
                    if (winner >= 0) won[winner]++;
                }
                for (int w = 0; w < 4; w++) is(n + " seeds from " + first, x.wins(w, n, first), won[w]);
            }
        }
    }

    /** A PARTY that ENDS sooner or later by each FORM, as all sit early. */
    private static ChairTooFew roomy() {
        ChairTooFew x = read("c13;c16;c19;c22;c23;w20,1,78;w8,0,47;w7,6,46;w23,1,23;p0,3;");
        for (int w = 0; w < 4; w++) x.set(w, 2, 4);
        return x;
    }

    /** "most unlike WALKERS", "TENTHS together" of a FORM. */
    private static int[] ofForm(ChairTooFew x, int form, int n, int z) {
        x.form(form);
        int unlike = 0;
        int tenths = 0;
        for (int i = 0; i < n; i++) {
            int winner = winnerOf(x, z + i);
            if (winner >= 0) unlike |= 1 << winner;
            tenths += x.lasts(0);
        }
        return new int[] {Integer.bitCount(unlike), tenths};
    }

    // "the most unlike WALKERS are WINNERS, of several the least TENTHS together, then the least."
    private static void fairestOfSeveral() {
        int[] told = new int[3];
        int byTenths = 0;
        for (int z = 0; z < 40; z++) {
            int n = 1 + z % 4;
            ChairTooFew x = roomy();
            int[] best = ofForm(x, 0, n, z);
            int due = 0;
            for (int form = 1; form < 3; form++) {
                int[] of = ofForm(x, form, n, z);
                if (of[0] == best[0] && of[1] < best[1]) byTenths++;
                if (of[0] > best[0] || of[0] == best[0] && of[1] < best[1]) {
                    best = of;
                    due = form;
                }
            }
            is("FAIREST of " + n + " from " + z, x.fairest(n, z), due);
            told[due]++;
        }
        for (int form = 0; form < 3; form++) is("each FORM is the fairest somewhere", told[form] > 0 ? 1 : 0, 1);
        is("by TENTHS, too", byTenths > 0 ? 1 : 0, 1);
    }

    private static void fairestByTenths() {
        ChairTooFew same = read("c0;c8;w0,0,1;w8,0,1;w4,0,1;p4,5;");
        is("as unlike, as long: the least", same.fairest(20, 1), 0);
        // LIKING 1, who is at the CHAIR at 8: by FORM 0 that stays, by FORM 1 it goes first.
        ChairTooFew longer = read("c0;c8;w0,0,1;w8,0,1;w4,0,1;p3,1;f1;");
        longer.set(2, 2, 0);
        is("FORM 1: one TENTH, then 300", longer.lasts(0), 301);
        longer.form(0);
        is("FORM 0: one TENTH, then one", longer.lasts(0), 2);
        is("the least TENTHS", longer.fairest(1, 1), 0);
        ChairTooFew other = read("c0;c8;w0,0,1;w8,0,1;w4,0,1;p3,3;");
        other.set(2, 2, 0);
        is("LIKING 0, who is at 0: FORM 0 takes it", other.lasts(0), 301);
        is("FORM 1 does not", other.fairest(1, 1), 1);
    }

    // "SHORTEST PLAYER: of KINDS 0 .. 4 (FIGURE as it is) .. fewest TENTHS, of several the least."
    private static void shortestOfSeveral() {
        ChairTooFew x = read("c0;c8;w0,0,1;w8,0,1;w4,0,1;p4,1;");
        // z 0: draws 0 first: EVEN in the first TENTH as TOLD 1 and LONG 1, then it is a matter of draws.
        is("TOLD 1: two TENTHS", x.lasts(0), 2);
        is("LIKING 1 is at 8: two TENTHS, less than TOLD", x.shortest(), 3);
        x.set(2, 2, 0);
        x.form(1);
        is("by FORM 1 it is left without a CHAIR", x.shortest(), 4);
        x.player(2, 99);
        x.seed(1);
        is("EVEN 99 is as short as any", x.shortest(), 0);
        x.player(4, 8);
        x.set(0, 0, 1);
        int[] tenths = new int[5];
        for (int z = 0; z < 60; z++) {
            int due = 0;
            x.seed(z);
            for (int kind = 0; kind < 5; kind++) {
                x.player(kind, 8);
                tenths[kind] = x.lasts(0);
                if (tenths[kind] < tenths[due]) due = kind;
            }
            is("SHORTEST of z " + z, x.shortest(), due);
        }
        is("KIND stayed", x.player(0, 1), 4);
    }

    private static int could(int figure, int... tenths) {
        ChairTooFew x = new ChairTooFew();
        x.player(0, figure);
        for (int t : tenths) x.row(t);
        return x.could();
    }

    // "COULD: KINDS (bits 0 .. 4) by which all of them could be, whatever is drawn"
    private static void couldByEachKind() {
        int[] tenths = {1, 2, 7, 8, 9, 15, 16, 17, 98, 99, 100, 104, 200, 295, 296, 297, 299};
        for (int t : tenths) {
            for (int figure = 1; figure <= 99; figure++) {
                int due = 1 + 8 + (t % 8 == 0 ? 2 : 0) + (t >= figure ? 4 : 0) + (t == figure ? 16 : 0);
                is("COULD of " + t + " by " + figure, could(figure, t), due);
            }
        }
        is("all of them: one is not in eighths", could(5, 8, 16, 24, 25), 1 + 4 + 8);
        is("all of them: the first is not", could(5, 25, 8, 16, 24), 1 + 4 + 8);
        is("all of them: one is ahead of FIGURE", could(9, 16, 24, 8), 1 + 2 + 8);
        is("all of them: one is not told", could(8, 8, 8, 16), 1 + 2 + 4 + 8);
        is("none of them", could(99), 31);
        is("16 of them", could(8, 8, 8, 8, 8, 8, 8, 8, 8, 8, 8, 8, 8, 8, 8, 8, 8), 31);
        is("the sixteenth, too", could(8, 8, 8, 8, 8, 8, 8, 8, 8, 8, 8, 8, 8, 8, 8, 8, 7), 1 + 8);
        is("EVEN by FIGURE 1, whatever is drawn", could(1, 3, 3, 3) & 1, 1);
    }

    // "LIKING: any; the 300th, too, but by TOLD"
    private static void couldOfTheThreeHundredth() {
        for (int figure = 1; figure <= 99; figure += 14) {
            is("the 300th by " + figure, could(figure, 300), 1 + 2 + 4 + 8);
            is("the 299th by " + figure, could(figure, 299), 1 + 4 + 8);
            is("with FIGURE by " + figure, could(figure, figure, 300) & 16, 0);
        }
        is("with another in eighths", could(99, 300, 8), 1 + 2 + 8);
    }

    private static int next(int tenth, int... tenths) {
        ChairTooFew x = new ChairTooFew();
        for (int t : tenths) x.row(t);
        int next = x.next(tenth);
        is("it has none then", x.count(6), 0);
        return next;
    }

    // "NEXT: the hundredths, cut, of the ROW that are no more than a told TENTH."
    private static void nextIsCut() {
        is("1 of 3", next(5, 5, 6, 7), 33);
        is("2 of 3", next(6, 5, 6, 7), 66);
        is("3 of 3", next(7, 5, 6, 7), 100);
        is("none of 3", next(4, 5, 6, 7), 0);
        is("of one", next(1, 1), 100);
        is("of one", next(299, 300), 0);
        is("the greatest", next(300, 300), 100);
        is("1 of 16", next(1, 1, 2, 2, 2, 2, 2, 2, 2, 2, 2, 2, 2, 2, 2, 2, 2), 6);
        is("15 of 16", next(1, 1, 1, 1, 1, 1, 1, 1, 1, 1, 1, 1, 1, 1, 1, 1, 2), 93);
        is("1 of 7", next(3, 3, 4, 4, 4, 4, 4, 4), 14);
    }

    // "how often .. at least one of them would sit, less the greater of both ODDS"
    private static void teamOfTwo() {
        ChairTooFew x = read("n4;c0;w0,0,50;w2,0,50;");
        is("one of them always", x.team(0, 1, 200, 0), 200 - Math.max(x.odds(0, 200), x.odds(1, 200)));
        is("as one way as the other", x.team(1, 0, 200, 0), x.team(0, 1, 200, 0));
        is("one TENTH", x.team(0, 1, 1, 0), 0);
        ChairTooFew one = read("c5;w4,0,50;w19,0,50;p4,99;");
        one.set(0, 2, 0);
        one.set(1, 2, 0);
        // 0 is at 5 from the 2nd to the 5th TENTH, 1 from the 20th on, for four.
        int[] n = {1, 2, 5, 19, 20, 21, 22, 23, 24, 43};
        int[] gain = {0, 0, 0, 0, 1, 2, 3, 4, 4, 4};
        for (int i = 0; i < n.length; i++) {
            is("behind others in mind", one.fair(7), 4);
            is("at least one in " + n[i], one.team(0, 1, n[i], 0), gain[i]);
            is("the other way", one.team(1, 0, n[i], 0), gain[i]);
        }
        ChairTooFew none = read("n4;w0,0,50;w2,0,50;");
        is("no CHAIR", none.team(0, 1, 200, 0) + none.team(0, 1, 200, 1), 0);
        ChairTooFew both = read("n4;c0;c1;w0,0,50;w2,0,50;");
        is("both always", both.team(0, 1, 200, 0), 0);
        is("HOLD: the other sits anyhow", both.team(0, 1, 200, 1), 200);
    }

    // "HOLD: if one sits where the other could (within its REACH) and that does not sit, it gives it"
    private static void holdWithinReach() {
        for (int far = 1; far <= 10; far++) {
            ChairTooFew x = read("c0;w0,0,1;w" + (24 - far) + ",0,1;");
            int reach = Math.min(9, far);
            x.set(1, 2, reach);
            is("FAR " + far + ", REACH " + reach, x.team(0, 1, 9, 1), far <= 9 ? 9 : 0);
            x.set(1, 2, reach - 1);
            is("FAR " + far + ", REACH " + (reach - 1), x.team(0, 1, 9, 1), 0);
            is("it sits as often as it gives none", x.odds(1, 9), 0);
        }
        ChairTooFew x = read("c0;w0,0,1;w20,0,1;w22,0,1;");
        is("one gives to the told one, not to the nearer", x.team(0, 1, 9, 1), 9);
        is("one that does not sit gives nothing", x.team(2, 1, 9, 1), 0);
        is("the other sits, the first has nothing to give", x.team(2, 0, 9, 1), 9);
        is("HASTE does not matter", x.set(1, 5, 6) + x.team(0, 1, 9, 1), 9);
    }

    private static int trueFilm(ChairTooFew x, int places, int wrongAt) {
        // By FAST 99 it comes on in each TENTH but the 1st, the 101st..
        int place = 0;
        int parts = 0;
        for (int i = 0; i < places; i++) {
            parts += 99;
            if (parts >= 100) {
                parts -= 100;
                place = (place + 1) % 24;
            }
            x.film(i == wrongAt ? (place + 1) % 24 : place);
        }
        is("a FILM of " + places, x.count(7), places);
        return x.judge(0);
    }

    // "a ROW of PLACES (bytes; 60 at most) of a WALKER behind 1, 2, .. TENTHS from now"
    private static void filmOfSixty() {
        ChairTooFew x = read("w0,0,99;");
        is("all of 60", trueFilm(x, 60, -1), -9);
        is("all of one", trueFilm(x, 1, -1), -9);
        is("none", trueFilm(x, 0, -1), -9);
        ChairTooFew y = read("w0,0,99;c23;");
        y.film(0);
        is("PLACE 0 behind the first TENTH", y.judge(0), -9);
        y.film(1);
        is("not behind none", y.judge(0), 0);
    }

    // "the place of the first that is wrong; -9"
    private static void filmFirstWrong() {
        int[] wrong = {0, 1, 30, 58, 59};
        for (int at : wrong) is("wrong at " + at, trueFilm(read("w0,0,99;"), 60, at), at);
        ChairTooFew x = read("w0,0,50;w5,0,50;");
        for (int i = 0; i < 3; i++) x.film(23);
        is("the first of several", x.judge(0), 0);
        is("it has none then", x.count(7), 0);
        ChairTooFew blocked = read("w0,0,99;w1,0,1;c20;");
        for (int i = 0; i < 60; i++) blocked.film(0);
        is("all go on: one is in the way", blocked.judge(0), -9);
    }

    // "THE IMAGE: all that there is"
    private static void imageOfAll() {
        ChairTooFew x = busy();
        ChairTooFew y = busy();
        x.image();
        y.image();
        is("the second ROUND stops", x.go(40) > 0 ? x.count(5) : 0, 2);
        x.chair(11);
        is("a WALKER more", x.walker(13, PLAIN, 99), 4);
        for (int what = 0; what < 6; what++) x.set(0, what, 2);
        x.player(2, 3);
        x.form(1);
        x.seed(12);
        is("TENTHS", x.go(1) >= 0 ? 1 : 0, 1);
        is("as many as then", x.restore(), 4);
        is("nobody more", x.of(4, 0), -1);
        is("one that comes then", x.walker(13, PLAIN, 50), 4);
        is("has gone 0 parts", x.of(4, 1), 0);
        is("restored once more", x.restore(), 4);
        Twin.alike(DUE, "behind restore() all is as it was", x, y);
        ChairTooFew ended = read("c0;c8;w0,0,50;w8,0,50;p4,3;");
        ended.go(3);
        ended.image();
        ended.chair(3);
        ended.restore();
        is("ENDED, too", ended.go(3), -3);
        ChairTooFew ring = new ChairTooFew();
        ring.image();
        Twin.read(ring, "n60;c59;w58,0,50;");
        ring.restore();
        is("N, too", ring.count(0), 24);
        Twin.alike(DUE, "a new object again", ring, with());
    }

    // Who came behind the image is no WALKER of it: in nobody's way, at no CHAIR, given nothing.
    private static void imageWithoutWhoCameBehindIt() {
        ChairTooFew x = read("n4;c0;w0,6,50;w1,0,50;p4,99;");
        ChairTooFew y = read("n4;c0;w0,6,50;w1,0,50;p4,99;");
        x.set(0, 4, 9);
        y.set(0, 4, 9);
        x.image();
        y.image();
        x.walker(2, PLAIN, 99);
        x.walker(3, PLAIN, 99);
        is("who came sits at times", x.odds(2, 9) + x.odds(3, 9) > 0 ? 1 : 0, 1);
        is("SITS of all", x.sits(0) + x.sits(1) + x.sits(2) + x.sits(3) > -36 ? 1 : 0, 1);
        x.restore();
        for (int t = 0; t < 20; t++) {
            is("goes by", x.go(1), y.go(1));
            for (int w = 0; w < 2; w++) {
                is("PLACE", x.of(w, 0), y.of(w, 0));
                is("parts", x.of(w, 1), y.of(w, 1));
                is("SITS", x.sits(w), y.sits(w));
            }
            is("who would GO", x.would(0), y.would(0));
        }
        Twin.alike(DUE, "as without them", x, y);
    }

    private static ChairTooFew with() {
        ChairTooFew x = new ChairTooFew();
        x.image();
        return x;
    }

    /** Seven TENTHS of a second ROUND that goes on; one is not IN. */
    private static ChairTooFew busy() {
        ChairTooFew x = read("n30;c0;c9;c20;w1,3,40;w12,6,60;w25,5,77;w28,0,9;f2;p4,33;");
        x.set(0, 1, 9);
        x.set(1, 2, 4);
        x.set(2, 3, 8);
        x.set(0, 4, 1);
        x.seed(-44);
        is("one goes", x.stop() >= 0 ? x.count(3) : 0, 3);
        is("it goes on", x.go(7), 0);
        is("ROUNDS and TENTHS", x.count(5) * 10 + x.count(4), 17);
        return x;
    }

    // ", but it, the TEXT, the ROWS, REFUSALS."
    private static void imageButIt() {
        ChairTooFew x = busy();
        x.feed(3, 0x3b3166);
        x.row(8);
        x.film(3);
        x.image();
        x.feed(3, 0x3b3066);
        x.row(9);
        x.film(4);
        x.chair(31);
        x.chair(8);
        x.restore();
        is("the TEXT", x.count(8), 6);
        is("the ROW", x.count(6), 2);
        is("the FILM", x.count(7), 2);
        is("REFUSALS", x.count(11), 1);
        is("a CHAIR", x.has(8), 0);
        x.chair(8);
        is("the image is there yet", x.restore(), 4);
        is("a CHAIR", x.has(8), 0);
        is("TEXT is read as fed", x.party(), 2);
    }

    // "In mind": nothing changes by it.
    private static void mindChangesNothing() {
        Twin.Call[] calls = {x -> x.sits(0), x -> x.would(0), x -> x.would(1), x -> x.odds(0, 200), x -> x.fair(200),
            x -> x.bestSlow(0, 50), x -> x.cheat(0, 50), x -> x.lasts(0), x -> x.lasts(1), x -> x.lasts(2),
            x -> x.wins(0, 20, 5), x -> x.fairest(20, 5), x -> x.shortest(), x -> x.could(), x -> x.team(0, 1, 50, 0),
            x -> x.team(0, 1, 50, 1), x -> x.haste(0, 5), x -> x.of(0, 0), x -> x.has(0), x -> x.count(0)};
        for (int i = 0; i < calls.length; i++) {
            Twin.Call call = calls[i];
            Twin.unchanged(DUE, "a question, " + i, MindEdgeTest::lively, call, call.on(lively()));
        }
    }
}
