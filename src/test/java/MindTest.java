/** Promises 17 to 24 and 28: what is thought through and changes nothing. */
public final class MindTest {
    private static final Due DUE = new Due("MindTest");

    public static void main(String[] args) {
        odds();
        fair();
        slows();
        notIn();
        lasts();
        seeds();
        fairestForm();
        shortestPlayer();
        teams();
        nothingChanges();
        refusals();
        DUE.end();
    }

    /** A CHAIR at 0 and one who comes by it each 46 TENTHS of FAST 50 and 4 of SLOW 25, less 9 of REACH. */
    private static ChairTooFew alone() {
        ChairTooFew x = new ChairTooFew();
        x.chair(0);
        x.walker(9, 0, 50);
        return x;
    }

    private static void odds() {
        ChairTooFew x = alone();
        // Behind 1 TENTH it is at 9 yet, behind 2 at 10; behind 12 at 15, 9 from 24.
        DUE.is("17: still near", x.odds(0, 1), 1);
        DUE.is("17: then not", x.odds(0, 11), 1);
        DUE.is("17: near again", x.odds(0, 12), 2);
        // At 0 from the 30th TENTH to the 33rd, at 9 from the 50th to the 51st.
        DUE.is("17: all the way by", x.odds(0, 51), 41);
        DUE.is("17: away", x.odds(0, 61), 41);
        DUE.is("17: greatest", x.odds(0, 200) > 100 ? 1 : 0, 1);
        DUE.is("17: it stayed", x.of(0, 0) * 100 + x.of(0, 1), 900);
        x.player(4, 1);
        DUE.is("17: THE PLAYER never stops", x.odds(0, 61), 41);
        DUE.is("17: no draw", x.seed(1), 1);
        x.set(0, 2, 0);
        DUE.is("17: REACH 0: four TENTHS by SLOW", x.odds(0, 60), 4);
    }

    private static void fair() {
        ChairTooFew x = new ChairTooFew();
        DUE.is("18: nobody", x.fair(1), 0);
        x.walker(0, 0, 50);
        DUE.is("18: one alone", x.fair(200), 0);
        x.chair(0);
        x.walker(12, 0, 50);
        // 0 is at 10 behind 22 TENTHS of 50 and SLOW 25 for four: from the 22nd on it is away.
        DUE.is("18: one sits, the other can't yet", x.fair(5), 5);
        DUE.is("18: below", x.fair(0), -4);
        DUE.is("18: above", x.fair(201), -6);
        x.set(1, 2, 0);
        x.set(0, 2, 0);
        // 0 sits three TENTHS (at 0 till it has 100 parts in the fourth), 1 four from its 24th on.
        DUE.is("18: three against none", x.fair(23), 3);
        DUE.is("18: three against one", x.fair(24), 2);
        DUE.is("18: three against four", x.fair(27), 1);
        DUE.is("18: nothing comes behind", x.fair(28), 1);
        x.walker(11, 0, 1);
        x.set(2, 2, 0);
        DUE.is("18: of all that are IN", x.fair(27), 4);
        DUE.is("18: the one who sits four times goes", x.stop(), 1);
        DUE.is("18: only those that are IN", x.fair(27), 3);
    }

    private static void slows() {
        ChairTooFew y = new ChairTooFew();
        y.chair(0);
        y.walker(0, 0, 50);
        y.set(0, 2, 0);
        // It sits till it has 100 parts: by 10 nine TENTHS, by 20 four, by 30 three.
        DUE.is("17: by 25", y.odds(0, 20), 3);
        DUE.is("19: slowest is best", y.bestSlow(0, 20), 10);
        DUE.is("19: of several the least", y.bestSlow(0, 1), 10);
        DUE.is("20: by 1 it always sits", y.cheat(0, 20), 17);
        y.set(0, 1, 1);
        DUE.is("20: no more than all", y.cheat(0, 20), 0);
        y.set(0, 1, 20);
        DUE.is("20: less what it is now", y.cheat(0, 4), 0);
        DUE.is("20: less what it is now", y.cheat(0, 5), 1);
        DUE.is("20: SLOW stayed", y.of(0, 5), 20);
        hurries();
    }

    /** 0 always takes the CHAIR at 0 from 1 who is there, and who must come to 1 to sit. */
    private static void hurries() {
        ChairTooFew z = new ChairTooFew();
        z.chair(0);
        z.chair(1);
        z.walker(23, 1, 99);
        z.walker(0, 0, 50);
        z.set(1, 2, 0);
        // By 20 it is at 1 in the fifth TENTH, by 30 in the fourth, by 40 in the third, by 50 in the second.
        DUE.is("17: by 25 in the fourth", z.odds(1, 4), 1);
        DUE.is("19: all as bad", z.bestSlow(1, 1), 10);
        DUE.is("19: in time", z.bestSlow(1, 2), 50);
        DUE.is("19: in time for two", z.bestSlow(1, 3), 50);
        DUE.is("19: 40 is enough for two", z.bestSlow(1, 4), 40);
        DUE.is("19: 30 is enough for two", z.bestSlow(1, 5), 30);
        // By 41 once, by 51 twice: the least counts.
        DUE.is("20: the least by which they are more", z.cheat(1, 3), 1);
        DUE.is("20: 31 gives no more than now", z.cheat(1, 4), 1);
        DUE.is("20: none", z.cheat(1, 5), 0);
        z.set(1, 1, 91);
        DUE.is("20: from 91", z.cheat(1, 5), 1);
    }

    private static void notIn() {
        ChairTooFew x = new ChairTooFew();
        x.chair(0);
        x.walker(0, 0, 50);
        x.walker(12, 0, 50);
        x.walker(6, 0, 50);
        x.stop();
        DUE.is("17: not IN", x.odds(1, 5), -1);
        DUE.is("19: one that is not IN never sits", x.bestSlow(1, 5), 10);
        DUE.is("20: one that is not IN never sits", x.cheat(1, 5), 0);
        DUE.is("22: one that is not IN never wins", x.wins(1, 5, 5), 0);
        DUE.is("28: not IN", x.team(0, 1, 5, 0), -1);
        DUE.is("28: not IN", x.team(1, 0, 5, 1), -1);
    }

    /** Four and three CHAIRS; it stops in the third TENTH of each ROUND. */
    private static ChairTooFew four() {
        ChairTooFew x = new ChairTooFew();
        x.chair(0);
        x.chair(6);
        x.chair(12);
        x.walker(0, 0, 1);
        x.walker(6, 0, 1);
        x.walker(12, 0, 1);
        x.walker(18, 0, 1);
        for (int w = 0; w < 4; w++) x.set(w, 2, 0);
        x.player(4, 3);
        return x;
    }

    private static void lasts() {
        ChairTooFew x = four();
        // 3 goes and the CHAIR at 0; then 0 and the CHAIR at 6; then 1; 2 is the WINNER.
        DUE.is("21: TENTHS", x.lasts(0), 9);
        DUE.is("21: ROUNDS", x.lasts(1), 3);
        DUE.is("21: WINNER", x.lasts(2), 2);
        x.form(1);
        // 3 and 12, then 2 and 6, then 1.
        DUE.is("21: FORM 1", x.lasts(2), 0);
        x.player(4, 99);
        DUE.is("21: TOLD later", x.lasts(0), 297);
        x.player(3, 1);
        // 1 stands at the CHAIR at 6 from the first TENTH on, till that has gone.
        DUE.is("21: LIKING", x.lasts(0), 1 + 1 + 300);
        DUE.is("21: nothing went by", x.count(4) + x.count(5), 0);
        ChairTooFew all = new ChairTooFew();
        all.chair(0);
        all.chair(1);
        all.walker(0, 0, 50);
        all.walker(5, 0, 50);
        all.player(4, 7);
        DUE.is("21: all sit", all.lasts(0), 7);
        DUE.is("21: one ROUND", all.lasts(1), 1);
        DUE.is("21: no WINNER", all.lasts(2), -9);
        all.go(4);
        DUE.is("21: from all as it is", all.lasts(0), 3);
        DUE.is("21: what", all.lasts(3), -2);
        DUE.is("21: what", all.lasts(-1), -2);
        all.stop();
        DUE.is("21: ENDED", all.lasts(0), -3);
        DUE.is("21: what, ahead of ENDED", all.lasts(3), -2);
        DUE.is("22: ENDED", all.wins(0, 1, 1), -3);
        DUE.is("23: ENDED", all.fairest(1, 1), -3);
        DUE.is("24: ENDED", all.shortest(), -3);
    }

    /** A party in which it matters when it stops. */
    private static ChairTooFew lively() {
        ChairTooFew x = new ChairTooFew();
        x.chair(0);
        x.chair(7);
        x.chair(16);
        x.walker(3, 0, 90);
        x.walker(4, 1, 70);
        x.walker(11, 2, 40);
        x.walker(20, 6, 55);
        for (int w = 0; w < 4; w++) x.set(w, 2, 3);
        return x;
    }

    private static void seeds() {
        ChairTooFew x = four();
        DUE.is("22: TOLD: always 2", x.wins(2, 20, 5), 20);
        DUE.is("22: never 1", x.wins(1, 20, 5), 0);
        ChairTooFew y = lively();
        int[] seeds = {1, 77, -5, Integer.MAX_VALUE - 3};
        for (int first : seeds) {
            int[] won = new int[4];
            for (int i = 0; i < 9; i++) {
                y.seed(first + i);
                int winner = y.lasts(2);
                if (winner >= 0) won[winner]++;
            }
            y.seed(1);
            for (int w = 0; w < 4; w++) DUE.is("22: as LASTS of each seed", y.wins(w, 9, first), won[w]);
        }
        DUE.is("22: z stayed", y.seed(1), 1);
    }

    private static void fairestForm() {
        DUE.is("23: one WINNER each, as long: the least", four().fairest(3, 1), 0);
        for (int first = 0; first < 60; first += 7) {
            for (int n = 1; n <= 5; n++) fairestOf(n, first);
        }
    }

    private static void fairestOf(int n, int first) {
        ChairTooFew y = lively();
        int due = -1;
        int most = 0;
        int least = 0;
        for (int form = 0; form < 3; form++) {
            int winners = 0;
            int tenths = 0;
            y.form(form);
            for (int i = 0; i < n; i++) {
                y.seed(first + i);
                if (y.lasts(2) >= 0) winners |= 1 << y.lasts(2);
                tenths += y.lasts(0);
            }
            int unlike = Integer.bitCount(winners);
            if (due < 0 || unlike > most || unlike == most && tenths < least) {
                due = form;
                most = unlike;
                least = tenths;
            }
        }
        DUE.is("23: as LASTS of each FORM", y.fairest(n, first), due);
        DUE.is("23: FORM stayed", y.form(0), 2);
    }

    private static void shortestPlayer() {
        ChairTooFew x = four();
        x.player(4, 2);
        // LIKING 2: stops in each TENTH, as 2 stays at the CHAIR at 12: three TENTHS.
        DUE.is("24: LIKING", x.shortest(), 3);
        x.player(0, 99);
        // 99 modulo 4 is 3, who is at none; EVEN stops in the first three TENTHS.
        DUE.is("24: EVEN", x.shortest(), 0);
        x.player(4, 98);
        // LIKING 98 is 2, who stays at a CHAIR: three TENTHS, as by EVEN.
        DUE.is("24: two as short: the least", x.shortest(), 0);
        ChairTooFew y = four();
        y.form(0);
        y.player(2, 99);
        y.set(0, 0, 2);
        DUE.is("24: of several the least", y.shortest(), 0);
        DUE.is("24: KIND stayed", y.player(0, 1), 2);
        // FIGURE 1: TOLD needs three TENTHS, LIKING 1 is at 6: 1, 1 and 300.
        DUE.is("24: TOLD", y.shortest(), 4);
    }

    private static void teams() {
        ChairTooFew x = new ChairTooFew();
        x.chair(0);
        x.walker(0, 0, 50);
        x.walker(12, 0, 50);
        x.set(0, 2, 0);
        x.set(1, 2, 0);
        // 0 sits three TENTHS, 1 four from the 24th on.
        DUE.is("28: neither helps the other", x.team(0, 1, 20, 0), 0);
        DUE.is("28: three, then one", x.team(0, 1, 24, 0), 1);
        DUE.is("28: three and four, less four", x.team(1, 0, 40, 0), 3);
        DUE.is("28: HOLD: 1 has it not within REACH", x.team(0, 1, 20, 1), 0);
        DUE.is("28: HOLD: it sits itself", x.team(0, 1, 40, 1), 4);
        x.set(1, 2, 9);
        // 1 is 9 away behind 6 TENTHS, when 0 has gone on: it sits at once, so HOLD helps nothing.
        DUE.is("28: HOLD is no more", x.team(0, 1, 5, 1), 0);
        x.walker(20, 0, 50);
        // 2 is 4, 3 away and would sit if 0 did not: in three TENTHS by HOLD, in all then by itself.
        DUE.is("28: HOLD", x.team(0, 2, 3, 1), 3);
        DUE.is("28: without", x.odds(2, 3), 0);
        x.set(2, 2, 3);
        DUE.is("28: HOLD within REACH alone", x.team(0, 2, 3, 1), 2);
        x.set(2, 2, 9);
        DUE.is("28: the first gives, not the other", x.team(2, 0, 3, 1), 3);
        DUE.is("28: one of them", x.team(0, 2, 10, 0), 3);
        DUE.is("28: one twice", x.team(0, 0, 5, 0), -1);
        DUE.is("28: nobody", x.team(0, 3, 5, 0), -1);
        DUE.is("28: nobody", x.team(-1, 0, 5, 0), -1);
        DUE.is("28: nobody, ahead of what", x.team(0, 0, 5, 2), -1);
        DUE.is("28: what, ahead of n", x.team(0, 1, 0, 2), -2);
        DUE.is("28: what below", x.team(0, 1, 0, -1), -2);
        DUE.is("28: below", x.team(0, 1, 0, 0), -4);
        DUE.is("28: above", x.team(0, 1, 201, 1), -6);
        DUE.is("28: greatest", x.team(0, 1, 200, 1) > 0 ? 1 : 0, 1);
    }

    private static int state(ChairTooFew x) {
        int sum = x.of(0, 0);
        for (int w = 0; w < 4; w++) {
            for (int what = 0; what < 6; what++) sum = 31 * sum + x.of(w, what);
        }
        for (int what = 0; what < 17; what++) sum = 31 * sum + x.count(what);
        for (int p = 0; p < 24; p++) sum = 31 * sum + x.has(p);
        int z = x.seed(0);
        x.seed(z);
        int form = x.form(0);
        x.form(form);
        return (31 * sum + z) * 31 + form;
    }

    private static void nothingChanges() {
        ChairTooFew x = lively();
        x.form(2);
        x.seed(99);
        x.go(4);
        int before = state(x);
        x.odds(0, 200);
        x.fair(200);
        x.bestSlow(1, 50);
        x.cheat(2, 50);
        x.lasts(0);
        x.wins(1, 20, 3);
        x.fairest(20, 3);
        x.shortest();
        x.team(0, 1, 30, 0);
        x.team(0, 1, 30, 1);
        x.sits(0);
        x.would(0);
        x.would(1);
        x.haste(0, 5);
        DUE.is("17 to 28: all as it was", state(x), before);
    }

    private static void refusals() {
        ChairTooFew x = lively();
        DUE.is("17: nobody, ahead of n", x.odds(4, 0), -1);
        DUE.is("17: nobody below", x.odds(-1, 5), -1);
        DUE.is("17: below", x.odds(0, 0), -4);
        DUE.is("17: above", x.odds(0, 201), -6);
        DUE.is("19: nobody, ahead of n", x.bestSlow(4, 0), -1);
        DUE.is("19: below", x.bestSlow(0, 0), -4);
        DUE.is("19: above", x.bestSlow(0, 201), -6);
        DUE.is("20: nobody, ahead of n", x.cheat(-1, 0), -1);
        DUE.is("20: below", x.cheat(0, -1), -4);
        DUE.is("20: above", x.cheat(0, 201), -6);
        DUE.is("22: nobody, ahead of n", x.wins(4, 0, 1), -1);
        DUE.is("22: below", x.wins(0, 0, 1), -4);
        DUE.is("22: above", x.wins(0, 21, 1), -6);
        DUE.is("23: below", x.fairest(0, 1), -4);
        DUE.is("23: above", x.fairest(21, 1), -6);
        ChairTooFew one = new ChairTooFew();
        one.walker(0, 0, 50);
        DUE.is("17: no CHAIR is no refusal", one.odds(0, 5), 0);
        DUE.is("21: fewer than two", one.lasts(2), -3);
        DUE.is("22: n, ahead of -3", one.wins(0, 21, 1), -6);
        DUE.is("22: n, ahead of -3", one.wins(0, 0, 1), -4);
        DUE.is("22: fewer than two", one.wins(0, 20, 1), -3);
        DUE.is("23: n, ahead of -3", one.fairest(0, 1), -4);
        DUE.is("23: n, ahead of -3", one.fairest(21, 1), -6);
        DUE.is("23: fewer than two", one.fairest(20, 1), -3);
        DUE.is("24: fewer than two", one.shortest(), -3);
        one.walker(1, 0, 50);
        DUE.is("24: no CHAIR", one.shortest(), -3);
        one.chair(0);
        DUE.is("24: goes", one.shortest() >= 0 ? 1 : 0, 1);
    }
}
