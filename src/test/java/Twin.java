import java.util.ArrayList;
import java.util.List;

/** Two objects made alike: what a call did to one of them shows in what both answer afterwards. */
final class Twin {
    interface Maker { ChairTooFew make(); }

    interface Call { int on(ChairTooFew x); }

    private static final int FIRST_REFUSALS = 11;
    private static final int LAST_REFUSALS = 16;

    private Twin() {
    }

    /** The call answers the number, and nothing changes but how many of these refusals there were. */
    static void refused(Due due, String what, Maker maker, Call call, int number) {
        compare(due, what, maker.make(), maker.make(), call, number, number);
    }

    /** The call answers, and nothing at all changes. */
    static void unchanged(Due due, String what, Maker maker, Call call, int answer) {
        compare(due, what, maker.make(), maker.make(), call, answer, 0);
    }

    private static void compare(Due due, String what, ChairTooFew x, ChairTooFew y, Call call, int answer, int counted) {
        due.is(what, call.on(x), answer);
        for (int c = FIRST_REFUSALS; c <= LAST_REFUSALS; c++) {
            due.is(what + ", count(" + c + ")", x.count(c), y.count(c) + (c == 10 - counted ? 1 : 0));
        }
        alike(due, what, x, y);
    }

    /** Both answer alike, whatever is asked. */
    static void alike(Due due, String what, ChairTooFew x, ChairTooFew y) {
        List<Integer> got = answers(x);
        List<Integer> want = answers(y);
        due.is(what + ", answers", got.size(), want.size());
        for (int i = 0; i < want.size(); i++) due.is(what + ", then answer " + i, got.get(i), want.get(i));
    }

    // Every look at an object that has no more than 4 walkers; some 330 calls.
    private static List<Integer> answers(ChairTooFew x) {
        List<Integer> all = new ArrayList<>();
        look(x, all);
        for (int w = 0; w < 4; w++) {
            all.add(x.sits(w));
            all.add(x.odds(w, 25));
            all.add(x.haste(w, 3));
        }
        for (int what = 0; what < 3; what++) all.add(x.lasts(what));
        all.add(x.would(0));
        all.add(x.would(1));
        all.add(x.could());
        all.add(x.next(8));
        all.add(x.judge(0));
        all.add(x.judge(1));
        all.add(x.party());
        all.add(x.seed(9));
        all.add(x.form(1));
        all.add(x.player(1, 50));
        traits(x, all);
        all.add(x.restore());
        look(x, all);
        for (int what = 0; what < 3; what++) all.add(x.lasts(what));
        all.add(x.seed(8));
        all.add(x.form(0));
        all.add(x.player(4, 2));
        traits(x, all);
        return all;
    }

    private static void look(ChairTooFew x, List<Integer> all) {
        for (int what = 0; what <= 8; what++) all.add(x.count(what));
        for (int w = 0; w < 4; w++) {
            for (int what = 0; what < 6; what++) all.add(x.of(w, what));
        }
        int places = Math.min(60, x.count(0));
        for (int p = 0; p < places; p++) all.add(x.has(p));
    }

    private static void traits(ChairTooFew x, List<Integer> all) {
        for (int w = 0; w < 4; w++) {
            for (int what = 0; what < 6; what++) all.add(x.set(w, what, 1));
        }
    }

    /** Bytes of a text come to the TEXT, eight at a time. */
    static int feed(ChairTooFew x, String text) {
        int had = 0;
        for (int from = 0; from < text.length(); from += 8) {
            int n = Math.min(8, text.length() - from);
            long bytes = 0;
            for (int i = 0; i < n; i++) bytes |= (long) (text.charAt(from + i) & 255) << (8 * i);
            had = x.feed(n, bytes);
        }
        return had;
    }

    /** A text is fed and read as a PARTY. */
    static int read(ChairTooFew x, String text) {
        feed(x, text);
        return x.party();
    }
}
