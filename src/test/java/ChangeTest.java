import java.util.ArrayList;
import java.util.LinkedHashMap;
import java.util.List;
import java.util.Map;

/**
 * What a call that is not refused changes, and that nothing else changes by it: everything that an
 * object can be asked is looked at behind the call and without it. Each look is at an object of its
 * own, made alike, so that looks which change something don't hide anything.
 */
public final class ChangeTest {
    private static final Due DUE = new Due("ChangeTest");

    public static void main(String[] args) {
        texts();
        setters();
        traits();
        players();
        music();
        rowsAndFilms();
        images();
        questions();
        DUE.end();
    }

    /** Somewhere in the second round, with an image of the first, a row, a film, a text and refusals. */
    private static ChairTooFew lively() {
        ChairTooFew x = new ChairTooFew();
        Twin.read(x, "n12;c0;c4;c8;w1,0,50;w3,1,61;w6,6,45;w10,2,37;w11,5,80;p4,99;f1;");
        for (int w = 0; w < 5; w++) {
            x.set(w, 2, 9 - w);
            x.set(w, 3, 1 + w);
            x.set(w, 4, 8 - w);
        }
        x.go(1);
        x.image();
        x.stop();
        x.go(2);
        x.seed(77);
        x.player(2, 17);
        x.row(8);
        x.row(16);
        x.row(11);
        // Walker 0, at 2 and 50 parts then, is at 3, 3, 4, not at 5.
        x.film(3);
        x.film(3);
        x.film(4);
        x.film(5);
        Twin.feed(x, "c5;");
        for (int i = 0; i < 2; i++) x.would(2);
        for (int i = 0; i < 3; i++) x.chair(0);
        for (int i = 0; i < 4; i++) x.form(-1);
        for (int i = 0; i < 5; i++) x.form(3);
        x.has(60);
        return x;
    }

    /** All that can be seen of an object, by name. */
    private static Map<String, Integer> seen(Twin.Maker maker) {
        Map<String, Integer> all = new LinkedHashMap<>();
        party("", maker, all);
        for (int what = 6; what <= 8; what++) all.put("count " + what, maker.make().count(what));
        for (int what = 11; what <= 16; what++) all.put("count " + what, maker.make().count(what));
        for (int t : new int[] {1, 7, 8, 9, 10, 11, 12, 15, 16, 17, 300}) all.put("row " + t, maker.make().next(t));
        for (int w = 0; w < 12; w++) all.put("film " + w, maker.make().judge(w));
        ChairTooFew read = maker.make();
        all.put("text", read.party());
        all.put("text, CHAIRS", read.count(1) - maker.make().count(1));
        int image = maker.make().restore();
        all.put("image", image);
        if (image >= 0) {
            party("image ", () -> {
                ChairTooFew x = maker.make();
                x.restore();
                return x;
            }, all);
        }
        return all;
    }

    private static void party(String name, Twin.Maker maker, Map<String, Integer> all) {
        ChairTooFew x = maker.make();
        for (int what = 0; what <= 5; what++) all.put(name + "count " + what, x.count(what));
        for (int p = 0; p < x.count(0); p++) all.put(name + "has " + p, x.has(p));
        for (int w = 0; w < x.count(2); w++) {
            for (int what = 0; what < 6; what++) all.put(name + "of " + w + " " + what, x.of(w, what));
            for (int what = 2; what < 5; what++) all.put(name + "set " + w + " " + what, x.set(w, what, 0));
        }
        all.put(name + "KIND", x.player(0, 1));
        all.put(name + "FORM", x.form(0));
        all.put(name + "z", x.seed(0));
        all.put(name + "FIGURE", figure(maker.make()));
        all.put(name + "stuck", maker.make().stop() == -3 ? 1 : 0);
    }

    // The one TENTH at which TOLD could have stopped.
    private static int figure(ChairTooFew x) {
        x.next(1);
        for (int t = 1; t < 100; t++) {
            x.row(t);
            if ((x.could() & 16) != 0) return t;
            x.next(1);
        }
        return -9;
    }

    /** The call answers so, and behind it all is as without it, but what is told as "name=value" (a name alone: is not there). */
    private static void changes(String what, Twin.Maker maker, Twin.Call call, int answer, String... changed) {
        Map<String, Integer> want = seen(maker);
        Map<String, Integer> got = seen(() -> {
            ChairTooFew x = maker.make();
            DUE.is(what, call.on(x), answer);
            return x;
        });
        for (String change : changed) {
            int at = change.indexOf('=');
            if (at < 0) {
                DUE.is(what + ", to be gone: " + change, want.remove(change) != null ? 1 : 0, 1);
                continue;
            }
            String name = change.substring(0, at);
            int value = Integer.parseInt(change.substring(at + 1));
            DUE.is(what + ", a change indeed: " + change, want.containsKey(name) && want.get(name) == value ? 0 : 1, 1);
            want.put(name, value);
        }
        List<String> names = new ArrayList<>(want.keySet());
        for (String name : got.keySet()) if (!want.containsKey(name)) names.add(name);
        for (String name : names) {
            DUE.is(what + ", then has " + name, got.containsKey(name) ? 1 : 0, want.containsKey(name) ? 1 : 0);
            if (got.containsKey(name) && want.containsKey(name)) DUE.is(what + ", then " + name, got.get(name), want.get(name));
        }
    }

    private static void changes(String what, Twin.Call call, int answer, String... changed) {
        changes(what, ChangeTest::lively, call, answer, changed);
    }

    /** The party of lively() behind its last round: one is in. */
    private static ChairTooFew ended() {
        ChairTooFew x = lively();
        x.player(4, 3);
        while (x.stop() >= 0 && x.count(3) > 1) x.player(4, 3);
        return x;
    }

    // Promises 2, 3
    private static void texts() {
        changes("feed", x -> x.feed(3, 0x3b3066), 6, "count 8=6", "text=2");
        changes("party, c5;", ChairTooFew::party, 1, "count 1=3", "has 5=1", "count 8=0", "text=-1000", "text, CHAIRS=0");
        changes("party, FAULT of kind 1", () -> fed("x"), ChairTooFew::party, -1003,
            "count 8=0", "text=-1000");
        changes("party, FAULT of kind 2", () -> fed("w9,1,7;p1,5;f2;c12;"), ChairTooFew::party, -2018,
            "count 8=0", "text=-1000");
        changes("party, all that comes to one that is under way", () -> fed("w9,3,7;p1,5;f2;"), ChairTooFew::party, 4,
            "count 1=3", "has 5=1", "count 2=6", "count 3=5", "of 5 0=9", "of 5 1=0", "of 5 2=1", "of 5 3=3", "of 5 4=7",
            "of 5 5=3", "set 5 2=9", "set 5 3=5", "set 5 4=5", "KIND=1", "FIGURE=5", "FORM=2", "film 5=0",
            "count 8=0", "text=-1000", "text, CHAIRS=0");
        changes("party, p and f alone to one that ended", () -> {
            ChairTooFew x = ended();
            x.party();
            Twin.feed(x, "p1,5;f2;");
            return x;
        }, ChairTooFew::party, 2, "KIND=1", "FIGURE=5", "FORM=2", "count 8=0", "text=-1000");
        changes("party, a CHAIR to one that ended: it has one IN yet", ChangeTest::ended, ChairTooFew::party, 1,
            "count 1=2", "has 5=1", "count 8=0", "text=-1000", "text, CHAIRS=0");
        String[] smaller = new String[3 + 24 - 4];
        smaller[0] = "count 0=4";
        smaller[1] = "count 8=0";
        smaller[2] = "text=-1000";
        for (int p = 4; p < 24; p++) smaller[p - 1] = "has " + p;
        changes("party, n", () -> {
            ChairTooFew x = new ChairTooFew();
            Twin.feed(x, "n4;");
            return x;
        }, ChairTooFew::party, 1, smaller);
    }

    private static ChairTooFew fed(String more) {
        ChairTooFew x = lively();
        Twin.feed(x, more);
        return x;
    }

    // Promises 4, 5
    private static void setters() {
        changes("chair", x -> x.chair(7), 3, "count 1=3", "has 7=1");
        changes("walker", x -> x.walker(9, 3, 7), 5, "count 2=6", "count 3=5", "of 5 0=9", "of 5 1=0", "of 5 2=1",
            "of 5 3=3", "of 5 4=7", "of 5 5=3", "set 5 2=9", "set 5 3=5", "set 5 4=5", "film 5=0");
        changes("walker where one stood who went", x -> x.walker(6, 0, 99), 5, "count 2=6", "count 3=5", "of 5 0=6",
            "of 5 1=0", "of 5 2=1", "of 5 3=0", "of 5 4=99", "of 5 5=49", "set 5 2=9", "set 5 3=5", "set 5 4=5", "film 5=0");
        changes("a walker to one that ended", ChangeTest::ended, x -> x.walker(9, 3, 7), 5, "count 2=6", "count 3=2",
            "of 5 0=9", "of 5 1=0", "of 5 2=1", "of 5 3=3", "of 5 4=7", "of 5 5=3", "set 5 2=9", "set 5 3=5", "set 5 4=5",
            "film 5=0", "stuck=0");
        changes("a chair to one that ended", ChangeTest::ended, x -> x.chair(7), 2, "count 1=2", "has 7=1");
    }

    // Promise 6: of one who is in and of one who went
    private static void traits() {
        changes("FAST", x -> x.set(1, 0, 2), 61, "of 1 4=2");
        // 1 stays at 4 so long then that 0 does not come there in the third TENTH.
        changes("SLOW", x -> x.set(1, 1, 2), 30, "of 1 5=2", "film 0=2");
        changes("REACH", x -> x.set(1, 2, 2), 8, "set 1 2=2");
        changes("SIZE", x -> x.set(1, 3, 9), 2, "set 1 3=9");
        changes("MANNERS", x -> x.set(1, 4, 2), 7, "set 1 4=2");
        changes("KIND", x -> x.set(1, 5, 6), 1, "of 1 3=6");
        changes("FAST of one who went", x -> x.set(2, 0, 2), 45, "of 2 4=2");
        changes("SLOW of one who went", x -> x.set(2, 1, 2), 22, "of 2 5=2");
        changes("REACH of one who went", x -> x.set(2, 2, 2), 7, "set 2 2=2");
        changes("SIZE of one who went", x -> x.set(2, 3, 9), 3, "set 2 3=9");
        changes("MANNERS of one who went", x -> x.set(2, 4, 2), 6, "set 2 4=2");
        changes("KIND of one who went", x -> x.set(2, 5, 0), 6, "of 2 3=0");
    }

    // Promises 7, 8, 9
    private static void players() {
        changes("player", x -> x.player(3, 44), 2, "KIND=3", "FIGURE=44");
        changes("its FIGURE alone", x -> x.player(2, 99), 2, "FIGURE=99");
        changes("player as it was", x -> x.player(2, 17), 2);
        changes("form", x -> x.form(2), 1, "FORM=2");
        changes("form as it was", x -> x.form(1), 1);
        changes("seed", x -> x.seed(-5), 77, "z=-5");
        changes("player of one that ended", ChangeTest::ended, x -> x.player(1, 44), 4, "KIND=1", "FIGURE=44");
        changes("form of one that ended", ChangeTest::ended, x -> x.form(0), 1, "FORM=0");
        changes("seed of one that ended", ChangeTest::ended, x -> x.seed(0), 77, "z=0");
    }

    // Promises 13, 14
    private static void music() {
        changes("a TENTH", x -> x.go(1), 0, "count 4=3", "of 0 0=3", "of 0 1=0", "of 1 1=82", "of 3 1=48", "of 4 1=80",
            "z=" + (77 * 1103515245 + 12345), "film 0=1");
        // Behind that TENTH 1 sits at 4 and 4 at 0; 0 and 3 are one PLACE from a CHAIR each.
        changes("a TENTH in which it stops", () -> {
            ChairTooFew x = lively();
            x.player(4, 3);
            return x;
        }, x -> x.go(300), 1, "count 1=1", "has 4=0", "count 3=3", "count 4=0", "count 5=2", "of 0 0=3", "of 0 1=0",
            "of 1 1=82", "of 3 1=48", "of 3 2=0", "of 4 1=80", "z=" + (77 * 1103515245 + 12345), "film 0=1", "film 3=-1");
        // 0, at 2, is two PLACES from both CHAIRS, 3 is one from the CHAIR at 0.
        changes("a stop", ChairTooFew::stop, 0, "count 1=1", "has 4=0", "count 3=3", "count 4=0", "count 5=2", "of 0 2=0",
            "film 0=-1");
        changes("a stop at which nobody goes", ChangeTest::allSit, ChairTooFew::stop, -9, "count 4=0", "count 5=1", "stuck=1");
        changes("a stop by which one is left", ChangeTest::two, ChairTooFew::stop, 1, "count 3=1", "count 4=0", "count 5=1",
            "of 1 2=0", "film 1=-1", "stuck=1");
    }

    private static ChairTooFew allSit() {
        ChairTooFew x = new ChairTooFew();
        Twin.read(x, "n12;c0;c4;w1,0,50;w5,0,50;p4,99;");
        x.go(2);
        return x;
    }

    private static ChairTooFew two() {
        ChairTooFew x = new ChairTooFew();
        Twin.read(x, "n12;c4;w1,0,50;w5,0,10;p4,99;");
        x.go(1);
        x.set(1, 2, 0);
        return x;
    }

    // Promises 25, 27, 29, 30
    private static void rowsAndFilms() {
        changes("row", x -> x.row(12), 4, "count 6=4", "row 8=25", "row 9=25", "row 10=25", "row 11=50", "row 12=75",
            "row 15=75");
        changes("next", x -> x.next(9), 33, "count 6=0", "row 1=-3", "row 7=-3", "row 8=-3", "row 9=-3", "row 10=-3",
            "row 11=-3", "row 12=-3", "row 15=-3", "row 16=-3", "row 17=-3", "row 300=-3");
        changes("film", x -> x.film(5), 5, "count 7=5");
        changes("film, seen", () -> filmed(3, 3), x -> x.film(5), 3, "count 7=3", "film 0=2");
        changes("judge, right", () -> filmed(3, 3, 4), x -> x.judge(0), -9, "count 7=0", "film 1=-9", "film 3=-9", "film 4=-9");
        changes("judge, wrong", x -> x.judge(1), 0, "count 7=0", "film 0=-9", "film 1=-9", "film 3=-9", "film 4=-9");
        changes("judge, none", ChangeTest::filmed, x -> x.judge(1), -9);
    }

    private static ChairTooFew filmed(int... places) {
        ChairTooFew x = lively();
        x.judge(0);
        for (int place : places) x.film(place);
        return x;
    }

    // Promises 31, 32
    private static void images() {
        changes("image", ChairTooFew::image, 5, "image count 1=2", "image has 8=0", "image count 3=4", "image count 4=2",
            "image count 5=1", "image of 0 0=2", "image of 1 0=4", "image of 1 1=52", "image of 2 2=0", "image of 3 0=11",
            "image of 3 1=11", "image of 4 0=1", "image of 4 1=0", "image KIND=2", "image FIGURE=17", "image z=77");
        changes("image of one that ended", () -> {
            ChairTooFew x = ended();
            x.image();
            x.walker(9, 3, 7);
            return x;
        }, ChairTooFew::restore, 5, "count 2=5", "count 3=1", "of 5 0", "of 5 1", "of 5 2", "of 5 3", "of 5 4", "of 5 5",
            "set 5 2", "set 5 3", "set 5 4", "film 5=-1", "stuck=1");
        changes("restore", ChairTooFew::restore, 5, "count 1=3", "has 8=1", "count 3=5", "count 4=1", "count 5=0", "of 0 0=1",
            "of 1 0=3", "of 1 1=61", "of 2 2=1", "of 3 0=10", "of 3 1=37", "of 4 0=11", "of 4 1=80", "KIND=4", "FIGURE=99",
            "z=" + (1103515245 + 12345), "film 0=0", "film 2=0");
        // 0, at 1 and 50 parts at the image, is at 2, 2, 3 behind it.
        changes("restore leaves the FILM", () -> filmed(2, 2, 3, 9), ChairTooFew::restore, 5, "count 1=3", "has 8=1",
            "count 3=5", "count 4=1", "count 5=0", "of 0 0=1", "of 1 0=3", "of 1 1=61", "of 2 2=1", "of 3 0=10",
            "of 3 1=37", "of 4 0=11", "of 4 1=80", "KIND=4", "FIGURE=99", "z=" + (1103515245 + 12345), "film 0=3", "film 2=0");
    }

    // Promises 10 to 12, 15 to 24, 26, 28, 33: nothing
    private static void questions() {
        Twin.Call[] calls = {x -> x.of(1, 1), x -> x.has(4), x -> x.haste(1, 3), x -> x.sits(1), x -> x.would(0),
            x -> x.would(1), x -> x.odds(1, 200), x -> x.fair(200), x -> x.bestSlow(1, 90), x -> x.cheat(1, 90),
            x -> x.lasts(0), x -> x.lasts(1), x -> x.lasts(2), x -> x.wins(1, 20, -7), x -> x.fairest(20, -7),
            ChairTooFew::shortest, ChairTooFew::could, x -> x.team(1, 3, 90, 0), x -> x.team(1, 3, 90, 1), x -> x.count(3),
            x -> x.count(10)};
        for (int i = 0; i < calls.length; i++) {
            changes("question " + i, calls[i], calls[i].on(lively()));
        }
    }
}
