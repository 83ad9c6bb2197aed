/** Promises 13 to 16: tenths that go by, stops, who sits where, who goes, which chair goes. */
public final class RoundTest {
    private static final Due DUE = new Due("RoundTest");

    public static void main(String[] args) {
        paces();
        inTheWay();
        draws();
        playerKinds();
        longRounds();
        whenItGoes();
        sitting();
        ties();
        polite();
        politeRow();
        reach();
        whoGoes();
        whichChair();
        partyEnds();
        DUE.end();
    }

    private static void at(String what, ChairTooFew x, int walker, int place, int parts) {
        DUE.is(what + ", PLACE", x.of(walker, 0), place);
        DUE.is(what + ", parts", x.of(walker, 1), parts);
    }

    /** A ring in which nothing stops for 98 tenths. */
    private static ChairTooFew quiet() {
        ChairTooFew x = new ChairTooFew();
        x.player(4, 99);
        return x;
    }

    private static void paces() {
        ChairTooFew x = quiet();
        x.chair(23);
        x.walker(22, 0, 70);
        x.walker(5, 0, 50);
        DUE.is("13: goes by", x.go(1), 0);
        at("13: FAST", x, 0, 22, 70);
        x.go(1);
        at("13: to the next, with 100 less", x, 0, 23, 40);
        at("13: 100 parts are enough", x, 1, 6, 0);
        x.go(1);
        at("13: SLOW past a CHAIR", x, 0, 23, 75);
        x.go(1);
        at("13: round", x, 0, 0, 10);
        DUE.is("13: TENTHS", x.count(4), 4);
        DUE.is("13: all of it in one", x.go(90), 0);
        DUE.is("13: TENTHS", x.count(4), 94);
    }

    private static void inTheWay() {
        ChairTooFew x = quiet();
        x.chair(20);
        x.walker(3, 0, 60);
        x.walker(4, 0, 60);
        x.go(2);
        at("13: one is there yet", x, 0, 3, 99);
        at("13: the one ahead went on", x, 1, 5, 20);
        x.go(1);
        at("13: free now", x, 0, 4, 59);
        ChairTooFew y = quiet();
        y.chair(20);
        y.walker(4, 0, 60);
        y.walker(3, 0, 60);
        y.go(2);
        at("13: by numbers, the one ahead first", y, 1, 4, 20);
        ChairTooFew z = quiet();
        z.chair(3);
        z.chair(20);
        z.walker(3, 0, 60);
        z.walker(10, 0, 10);
        z.walker(4, 0, 1);
        z.set(0, 2, 0);
        z.set(1, 2, 0);
        z.set(2, 2, 0);
        DUE.is("14: farthest goes", z.stop(), 1);
        DUE.is("14: the nearer one goes then", z.would(0), 2);
        z.go(5);
        at("13: stays behind who is IN", z, 0, 3, 99);
    }

    private static void draws() {
        // The draws of z 1 are 38, 58, 13, 15, 51, 27, 10, 19, 12, 86.
        int[] draws = {38, 58, 13, 15, 51, 27, 10, 19, 12, 86};
        for (int i = 0; i < draws.length; i++) {
            int before = 100;
            for (int k = 0; k < i; k++) before = Math.min(before, draws[k]);
            if (draws[i] >= before) continue;
            ChairTooFew x = three();
            x.player(0, draws[i]);
            DUE.is("13: no draw of " + (i + 1) + " is below " + draws[i], x.go(i + 1), 0);
            ChairTooFew y = three();
            y.player(0, draws[i] + 1);
            if (i > 0) DUE.is("13: none ahead", y.go(i), 0);
            DUE.is("13: draw " + i + " is", y.go(1), 1);
        }
    }

    private static ChairTooFew three() {
        ChairTooFew x = new ChairTooFew();
        x.chair(0);
        x.chair(12);
        x.walker(2, 0, 50);
        x.walker(9, 0, 50);
        x.walker(16, 0, 50);
        return x;
    }

    private static int drawOf(int z) {
        return (z & 0x7fffffff) / 65536 % 100;
    }

    private static void playerKinds() {
        ChairTooFew phrase = three();
        phrase.player(1, 20);
        DUE.is("13: PHRASE not in the third", phrase.go(7), 0);
        DUE.is("13: PHRASE in the eighth", phrase.go(1), 1);
        ChairTooFew below = three();
        below.player(1, 19);
        DUE.is("13: PHRASE as an EVEN", below.go(8), 0);
        ChairTooFew told = three();
        told.player(4, 6);
        DUE.is("13: TOLD", told.go(5), 0);
        DUE.is("13: TOLD", told.go(300), 1);
        DUE.is("13: a draw each TENTH", told.count(4), 0);
        int z = 1;
        for (int i = 0; i < 6; i++) z = z * 1103515245 + 12345;
        DUE.is("13: six draws in six TENTHS", told.seed(1), z);
        for (int figure = 5; figure < 60; figure += 9) {
            int due = 0;
            int w = 1;
            for (int t = 1; due == 0; t++) {
                w = w * 1103515245 + 12345;
                if (drawOf(w) < figure && t >= figure || t == 300) due = t;
            }
            ChairTooFew x = three();
            x.player(2, figure);
            DUE.is("13: LONG not ahead of " + due, due > 1 ? x.go(due - 1) : 0, 0);
            DUE.is("13: LONG in " + due, x.go(1), 1);
        }
        // From 9 it is six TENTHS to the CHAIR at 12, from 2 twenty; 4 modulo 3 is 1.
        ChairTooFew liking = three();
        liking.player(3, 4);
        DUE.is("13: LIKING not yet", liking.go(5), 0);
        DUE.is("13: LIKING at a CHAIR", liking.go(1), 1);
        ChairTooFew other = three();
        other.player(3, 3);
        DUE.is("13: LIKING another", other.go(19), 0);
        DUE.is("13: LIKING another at a CHAIR", other.go(1), 1);
        ChairTooFew gone = three();
        DUE.is("14: who is at 16 goes", gone.stop(), 2);
        gone.player(3, 2);
        DUE.is("13: LIKING one who is not IN", gone.go(299), 0);
        DUE.is("13: but the 300th", gone.go(1), 2);
    }

    private static void longRounds() {
        ChairTooFew x = quiet();
        x.chair(0);
        x.chair(12);
        x.walker(2, 0, 50);
        x.walker(9, 0, 50);
        x.walker(16, 0, 50);
        x.go(20);
        x.player(4, 20);
        DUE.is("13: TOLD behind its TENTH", x.go(279), 0);
        DUE.is("13: TENTHS", x.count(4), 299);
        DUE.is("13: the 300th", x.go(300), 1);
        DUE.is("13: ROUNDS", x.count(5), 1);
        DUE.is("13: the next begins", x.go(19), 0);
        DUE.is("13: TOLD anew", x.go(1), 2);
    }

    private static void whenItGoes() {
        ChairTooFew x = new ChairTooFew();
        DUE.is("13: nobody", x.go(1), -3);
        x.walker(0, 0, 50);
        x.walker(1, 0, 50);
        DUE.is("13: no CHAIR", x.go(1), -3);
        DUE.is("14: no CHAIR", x.stop(), -3);
        DUE.is("13: no CHAIR, ahead of n", x.go(0), -3);
        DUE.is("13: no CHAIR, ahead of n", x.go(301), -3);
        x.chair(5);
        x.player(4, 99);
        DUE.is("13: below", x.go(0), -4);
        DUE.is("13: below", x.go(-7), -4);
        DUE.is("13: above", x.go(301), -6);
        DUE.is("13: goes", x.go(1), 0);
        DUE.is("13: REFUSALS", x.count(13), 5);
        ChairTooFew one = new ChairTooFew();
        one.chair(0);
        one.walker(4, 0, 50);
        DUE.is("13: fewer than two", one.go(5), -3);
        DUE.is("14: fewer than two", one.stop(), -3);
        one.walker(5, 0, 50);
        one.player(4, 3);
        DUE.is("13: the greatest n", one.go(300), 2);
        at("13: it ENDED in the third", one, 0, 5, 49);
    }

    private static void sitting() {
        ChairTooFew x = new ChairTooFew();
        x.chair(0);
        x.chair(10);
        x.walker(2, 0, 50);
        x.walker(6, 0, 50);
        x.walker(12, 0, 20);
        // HASTES: 0: 4 and 16, 1: 12 and 8, 2: 10 for the CHAIR at 10.
        DUE.is("15: the least HASTE", x.sits(0), 0);
        DUE.is("15: 8 is ahead of 10", x.sits(1), 10);
        DUE.is("15: none", x.sits(2), -9);
        DUE.is("16: who", x.would(0), 2);
        x.set(2, 5, 1);
        // 2 RACED: 10 less 5 is ahead of 8.
        DUE.is("15: RACED", x.sits(2), 10);
        DUE.is("15: pushed out", x.sits(1), -9);
        DUE.is("16: who now", x.would(0), 1);
        x.set(2, 5, 0);
        x.set(1, 5, 4);
        // 1 MISSED: 16 is behind 10.
        DUE.is("15: MISSED", x.sits(1), -9);
        x.set(1, 5, 2);
        // 1 LAPPED: 13 is behind 10.
        DUE.is("15: LAPPED", x.sits(2), 10);
        x.set(2, 5, 3);
        x.set(2, 4, 0);
        // 2 PUSHED without MANNERS: 10 less 5 less 9, 0 at least.
        x.set(1, 5, 1);
        DUE.is("15: PUSHED", x.sits(2), 10);
        DUE.is("15: nothing came of looking", x.count(1) * 100 + x.count(3), 203);
        DUE.is("15: nobody", x.sits(3), -1);
        DUE.is("15: nobody below", x.sits(-1), -1);
        x.stop();
        DUE.is("15: not IN", x.sits(1), -1);
        DUE.is("15: the others", x.sits(0), -9);
        DUE.is("15: the CHAIR that stayed", x.sits(2), 10);
    }

    private static void ties() {
        ChairTooFew x = new ChairTooFew();
        x.chair(10);
        x.walker(13, 0, 50);
        x.walker(7, 0, 50);
        DUE.is("15: of several the least WALKER", x.sits(0), 10);
        DUE.is("15: the other", x.sits(1), -9);
        ChairTooFew y = new ChairTooFew();
        y.chair(14);
        y.chair(8);
        y.walker(11, 0, 50);
        DUE.is("15: of several the least PLACE", y.sits(0), 8);
        y.walker(5, 0, 50);
        // Both are 6 from 8: the first takes it, the second has 9 to go to 14.
        DUE.is("15: the least WALKER takes it", y.sits(0), 8);
        DUE.is("15: the other goes farther", y.sits(1), 14);
    }

    private static void polite() {
        ChairTooFew x = new ChairTooFew();
        x.chair(10);
        x.walker(10, 6, 50);
        x.walker(8, 4, 20);
        x.walker(5, 0, 50);
        // HASTES for it: JUDGED 0 and 5 and 5 is 10, MISSED 20, PLAIN 10.
        DUE.is("15: as little HASTE", x.sits(2), 10);
        DUE.is("15: who gave it", x.sits(0), -9);
        DUE.is("16: who would go", x.would(0), 1);
        x.set(0, 4, 4);
        DUE.is("15: more HASTE gets nothing", x.sits(0), 10);
        x.set(0, 4, 5);
        x.set(2, 2, 4);
        DUE.is("15: not within REACH", x.sits(0), 10);
        x.set(2, 2, 5);
        DUE.is("15: within REACH", x.sits(2), 10);
        x.walker(15, 0, 50);
        DUE.is("15: the least number of these", x.sits(2), 10);
        DUE.is("15: not the other", x.sits(3), -9);
        x.set(0, 5, 2);
        x.set(0, 3, 9);
        x.set(0, 4, 0);
        // LAPPED 9 sits, and gives nothing.
        DUE.is("15: only a JUDGED gives", x.sits(0), 10);
    }

    private static void politeRow() {
        ChairTooFew x = new ChairTooFew();
        x.chair(10);
        x.walker(10, 6, 50);
        x.walker(10 + 1, 6, 50);
        x.set(1, 4, 3);
        // 0: 10; 1: 2 and 5 and 3 is 10: 0 sits, gives it to 1, who gives it back.
        DUE.is("15: each as it is then: back", x.sits(0), 10);
        DUE.is("15: back", x.sits(1), -9);
        x.walker(5, 0, 50);
        // 2 PLAIN has 10, too: 0 gives it to 1 (the least), 1 to 0 (the least).
        DUE.is("15: once each", x.sits(0), 10);
        DUE.is("15: once each", x.sits(2), -9);
        ChairTooFew y = new ChairTooFew();
        y.chair(10);
        y.walker(5, 0, 50);
        y.walker(10, 6, 50);
        // The PLAIN has as little and the least number: it sits at once.
        DUE.is("15: nothing to give", y.sits(0), 10);
        // Who gave a CHAIR stands, and has less HASTE for another's than that one.
        ChairTooFew z = new ChairTooFew();
        z.chair(10);
        z.chair(12);
        z.walker(9, 6, 50);
        z.set(0, 3, 0);
        z.set(0, 4, 0);
        z.walker(8, 0, 99);
        z.walker(15, 6, 50);
        z.set(2, 3, 1);
        z.set(2, 4, 1);
        // For 10: 0: 2, 1: 2, 2: 12. For 12: 0: 6, 1: 4, 2: 8. First 0 sits at 10, then 1 at 12.
        DUE.is("15: all are within reach", z.sits(0), 10);
        DUE.is("15: by HASTE", z.sits(1), 12);
        z.set(1, 2, 2);
        // 1 reaches 10 alone: 0 gives it, stands, and 2 gives 12 to 0 who has 6, less than 8.
        DUE.is("15: given", z.sits(1), 10);
        DUE.is("15: given on", z.sits(0), 12);
        DUE.is("15: none left", z.sits(2), -9);
    }

    private static void reach() {
        ChairTooFew x = new ChairTooFew();
        x.chair(0);
        x.walker(9, 0, 50);
        DUE.is("15: no farther than REACH", x.sits(0), 0);
        x.set(0, 2, 8);
        DUE.is("15: farther", x.sits(0), -9);
        x.walker(15, 0, 50);
        DUE.is("15: the other way round", x.sits(1), 0);
        x.walker(0, 0, 50);
        x.set(2, 2, 0);
        DUE.is("15: REACH 0 is the PLACE", x.sits(2), 0);
        x.chair(1);
        DUE.is("15: not a step", x.sits(2), 0);
    }

    private static void whoGoes() {
        ChairTooFew x = new ChairTooFew();
        DUE.is("16: nobody", x.would(0), -9);
        DUE.is("16: no CHAIR", x.would(1), -9);
        DUE.is("16: what", x.would(2), -2);
        DUE.is("16: what below", x.would(-1), -2);
        x.walker(4, 0, 50);
        x.walker(5, 0, 50);
        DUE.is("16: without CHAIRS the greatest number", x.would(0), 1);
        DUE.is("16: without CHAIRS", x.would(1), -9);
        x.chair(23);
        x.chair(8);
        x.set(0, 2, 0);
        x.set(1, 2, 0);
        // FAR to the CHAIRS: 4 from 4, 3 from 5.
        DUE.is("16: the farthest", x.would(0), 0);
        x.walker(12, 0, 50);
        x.set(2, 2, 0);
        DUE.is("16: of several the greatest number", x.would(0), 2);
        x.set(2, 2, 4);
        DUE.is("16: not one who sits", x.would(0), 0);
        DUE.is("14: as would() told", x.stop(), 0);
        DUE.is("14: it is not IN", x.of(0, 2), 0);
        DUE.is("14: it stays where it was", x.of(0, 0), 4);
        DUE.is("14: the CHAIR at the least PLACE went", x.has(8) * 10 + x.has(23), 1);
        DUE.is("16: not one who is not IN", x.would(0), 2);
        DUE.is("16: the last CHAIR does not go", x.would(1), -9);
        DUE.is("14: of the same FAR", x.stop(), 2);
        DUE.is("14: the last CHAIR stays", x.count(1), 1);
        DUE.is("14: it ENDED", x.stop(), -3);

        ChairTooFew all = new ChairTooFew();
        all.chair(3);
        all.chair(9);
        all.walker(3, 0, 50);
        all.walker(9, 0, 50);
        DUE.is("16: all sit", all.would(0), -9);
        DUE.is("16: no CHAIR would go", all.would(1), -9);
        DUE.is("14: nobody", all.stop(), -9);
        DUE.is("14: no CHAIR went", all.count(1), 2);
        DUE.is("14: all are IN", all.count(3), 2);
        DUE.is("14: it ENDED", all.stop(), -3);
        DUE.is("14: the ROUND stopped", all.count(5), 1);
    }

    private static void whichChair() {
        int[] places = {2, 9, 11, 20};
        // Ways of two neighbours: 2: 6 and 7, 9: 7 and 2, 11: 2 and 9, 20: 9 and 6.
        int[] leaving = {2, 20, 9};
        for (int form = 0; form < 3; form++) {
            ChairTooFew x = new ChairTooFew();
            for (int i = 3; i >= 0; i--) x.chair(places[i]);
            for (int i = 0; i < 5; i++) x.walker(14 + i, 0, 50);
            x.form(form);
            DUE.is("16: FORM " + form, x.would(1), leaving[form]);
            x.stop();
            DUE.is("14: FORM " + form, x.has(leaving[form]), 0);
            DUE.is("14: one alone", x.count(1), 3);
        }
        ChairTooFew two = new ChairTooFew();
        two.form(2);
        two.chair(20);
        two.chair(19);
        for (int i = 0; i < 3; i++) two.walker(i, 0, 50);
        DUE.is("16: of two the least PLACE", two.would(1), 19);
        two.chair(7);
        // 7: 11 and 12; 19: 12 and 1; 20: 1 and 11.
        two.walker(10, 0, 50);
        DUE.is("16: gone round", two.would(1), 20);
        two.chair(8);
        two.walker(11, 0, 50);
        // 7: 11 and 1; 8: 1 and 11; 19: 11 and 1; 20: 1 and 11.
        DUE.is("16: of several the least PLACE", two.would(1), 7);
    }

    private static void partyEnds() {
        ChairTooFew x = new ChairTooFew();
        x.player(4, 1);
        x.chair(0);
        x.chair(12);
        x.walker(0, 0, 50);
        x.walker(12, 0, 50);
        DUE.is("13: all sit: it ENDED by that", x.go(5), 2);
        DUE.is("13: in the first TENTH", x.of(0, 1), 25);
        DUE.is("13: it ENDED", x.go(5), -3);
        x.chair(5);
        DUE.is("13: a CHAIR lets it go on", x.go(1), 2);
        x.set(0, 2, 0);
        x.player(4, 1);
        x.seed(4);
        x.form(1);
        DUE.is("13: nothing else does", x.go(1), -3);
        x.walker(20, 0, 50);
        x.walker(21, 0, 50);
        DUE.is("13: a WALKER does", x.go(1), 1);
        DUE.is("13: IN", x.count(3), 3);
        DUE.is("13: CHAIRS", x.count(1), 2);
        DUE.is("13: it goes on", x.go(1), 1);
        DUE.is("13: one is IN: it ENDED", x.go(1), 2);
        DUE.is("13: IN", x.count(3), 1);
        DUE.is("13: the last CHAIR", x.count(1), 1);
        DUE.is("13: ROUNDS", x.count(5), 5);
        x.chair(1);
        DUE.is("13: fewer than two", x.go(1), -3);
        x.walker(10, 0, 50);
        DUE.is("13: two are IN", x.go(1) > 0 ? 1 : 0, 1);
    }
}
