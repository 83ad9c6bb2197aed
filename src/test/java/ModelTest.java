import java.util.Random;

/** Random runs of calls: the class must answer as the second writing of the document does. */
public final class ModelTest {
    private static final int RUNS = 1500;
    private static final int CALLS = 200;

    private final Random random;
    private final Due due;
    private ChairTooFew x = new ChairTooFew();
    private Model m = new Model();
    private final boolean wild;

    private ModelTest(long seed, Due due) {
        random = new Random(seed);
        this.due = due;
        wild = random.nextInt(3) == 0;
    }

    public static void main(String[] args) {
        int runs = args.length > 0 ? Integer.parseInt(args[0]) : RUNS;
        Due due = new Due("ModelTest");
        for (int run = 0; run < runs && due.allRight(); run++) {
            new ModelTest(run, due).run(run);
        }
        due.end();
    }

    private void run(int number) {
        if (random.nextInt(3) > 0) {
            say("n" + (random.nextInt(3) > 0 ? 4 + random.nextInt(12) : 4 + random.nextInt(57)) + ";");
            party(number, 0);
        }
        int chairs = random.nextInt(9);
        int walkers = random.nextInt(13);
        for (int i = 0; i < chairs; i++) {
            int p = place();
            check(number, i, "chair(" + p + ")", x.chair(p), m.chair(p));
        }
        int polite = random.nextInt(4);
        for (int i = 0; i < walkers; i++) {
            int p = place(), k = random.nextInt(4) < polite ? 6 : random.nextInt(7), f = within(1, 99);
            check(number, i, "walker(" + p + "," + k + "," + f + ")", x.walker(p, k, f), m.walker(p, k, f));
        }
        for (int i = 0; i < CALLS && due.allRight(); i++) {
            step(number, i);
            if (i % 10 == 9) lookAtAll(number, i);
        }
    }

    private void check(int run, int call, String what, long got, long want) {
        due.is("run " + run + ", call " + call + ": " + what, got, want);
    }

    private void lookAtAll(int run, int i) {
        for (int w = 0; w <= 16; w++) check(run, i, "count(" + w + ")", x.count(w), m.count(w));
        for (int w = 0; w < m.now.people.size(); w++) {
            for (int what = 0; what < 6; what++) {
                check(run, i, "of(" + w + "," + what + ")", x.of(w, what), m.of(w, what));
            }
        }
        for (int p = 0; p < m.now.n; p++) check(run, i, "has(" + p + ")", x.has(p), m.has(p));
    }

    private int within(int least, int most) {
        if (wild && random.nextInt(8) == 0) {
            int[] odd = {least - 1, most + 1, -1, 0, Integer.MIN_VALUE, Integer.MAX_VALUE, -9, 61, 301};
            return odd[random.nextInt(odd.length)];
        }
        int r = random.nextInt(14);
        return r == 0 ? least : r == 1 ? most : least + random.nextInt(most - least + 1);
    }

    private int place() { return within(0, m.now.n - 1); }

    private int who() { return within(0, Math.max(0, m.now.people.size() - 1)); }

    private int few() { return random.nextInt(4) == 0 ? within(1, 200) : within(1, 30); }

    private void say(String s) {
        for (int at = 0; at < s.length(); at += 8) {
            String part = s.substring(at, Math.min(s.length(), at + 8));
            long bytes = random.nextLong();
            if (part.length() < 8) bytes &= -1L << (8 * part.length()); else bytes = 0;
            for (int i = 0; i < part.length(); i++) bytes |= (long) part.charAt(i) << (8 * i);
            check(0, 0, "feed " + part, x.feed(part.length(), bytes), m.feed(part.length(), bytes));
        }
    }

    private String number(int most) {
        int r = random.nextInt(40);
        if (r == 0) return "0" + random.nextInt(10);
        if (r == 1) return "";
        if (r == 2) return "1000";
        if (r < 5) return "" + random.nextInt(1000);
        return "" + random.nextInt(most + 1);
    }

    private String digit(int most) {
        int r = random.nextInt(40);
        return r == 0 ? "12" : r < 3 ? "" + random.nextInt(10) : "" + random.nextInt(most + 1);
    }

    private void text(int run, int call) {
        StringBuilder s = new StringBuilder();
        int statements = random.nextInt(8);
        for (int i = 0; i < statements; i++) {
            switch (random.nextInt(8)) {
                case 0 -> s.append("n" + number(60) + ";");
                case 1, 2 -> s.append("c" + number(m.now.n) + ";");
                case 3, 4, 5 -> s.append("w" + number(m.now.n) + "," + digit(6) + "," + number(99) + ";");
                case 6 -> s.append("p" + digit(4) + "," + number(99) + ";");
                default -> s.append("f" + digit(2) + ";");
            }
        }
        int spoil = random.nextInt(8);
        if (spoil == 0 && s.length() > 0) s.setLength(random.nextInt(s.length()));
        if (spoil == 1 && s.length() > 0) s.setCharAt(random.nextInt(s.length()), (char) random.nextInt(256));
        if (spoil == 2) s.insert(random.nextInt(s.length() + 1), ";,0c9wnpf\u00ff".charAt(random.nextInt(10)));
        say(s.toString());
        party(run, call);
    }

    private void party(int run, int call) {
        String s = m.text.toString();
        check(run, call, "party() of " + s, x.party(), m.party());
    }

    private void step(int run, int i) {
        switch (random.nextInt(30)) {
            case 0 -> text(run, i);
            case 1 -> { int p = place(); check(run, i, "chair(" + p + ")", x.chair(p), m.chair(p)); }
            case 2 -> {
                int p = place(), k = within(0, 6), f = within(1, 99);
                check(run, i, "walker(" + p + "," + k + "," + f + ")", x.walker(p, k, f), m.walker(p, k, f));
            }
            case 3, 4 -> {
                int w = who(), what = within(0, 5), v = random.nextBoolean() ? within(0, 9) : within(1, 99);
                check(run, i, "set(" + w + "," + what + "," + v + ")", x.set(w, what, v), m.set(w, what, v));
            }
            case 5 -> {
                int k = within(0, 4), f = within(1, random.nextBoolean() ? 20 : 99);
                check(run, i, "player(" + k + "," + f + ")", x.player(k, f), m.player(k, f));
            }
            case 6 -> { int f = within(0, 2); check(run, i, "form(" + f + ")", x.form(f), m.form(f)); }
            case 7 -> { int z = random.nextInt(); check(run, i, "seed(" + z + ")", x.seed(z), m.seed(z)); }
            case 8 -> { int w = who(), a = within(0, 5); check(run, i, "of", x.of(w, a), m.of(w, a)); }
            case 9 -> { int p = place(); check(run, i, "has(" + p + ")", x.has(p), m.has(p)); }
            case 10 -> {
                int w = who(), p = place();
                check(run, i, "haste(" + w + "," + p + ")", x.haste(w, p), m.haste(w, p));
            }
            case 11, 12 -> { int n = within(1, 30); check(run, i, "go(" + n + ")", x.go(n), m.go(n)); }
            case 13 -> { int n = within(1, 300); check(run, i, "go(" + n + ")", x.go(n), m.go(n)); }
            case 14 -> { if (random.nextInt(3) == 0) check(run, i, "stop()", x.stop(), m.stop()); }
            case 15, 16 -> { int w = who(); check(run, i, "sits(" + w + ")", x.sits(w), m.sits(w)); }
            case 17 -> { int a = within(0, 1); check(run, i, "would(" + a + ")", x.would(a), m.would(a)); }
            default -> think(run, i);
        }
    }

    private void think(int run, int i) {
        int w = who(), v = who(), n = few(), s = within(1, 20), z = random.nextInt();
        switch (random.nextInt(16)) {
            case 0 -> check(run, i, "odds(" + w + "," + n + ")", x.odds(w, n), m.odds(w, n));
            case 1 -> check(run, i, "fair(" + n + ")", x.fair(n), m.fair(n));
            case 2 -> { if (n < 30) check(run, i, "bestSlow(" + w + "," + n + ")", x.bestSlow(w, n), m.bestSlow(w, n)); }
            case 3 -> { if (n < 30) check(run, i, "cheat(" + w + "," + n + ")", x.cheat(w, n), m.cheat(w, n)); }
            case 4 -> { int a = within(0, 2); check(run, i, "lasts(" + a + ")", x.lasts(a), m.lasts(a)); }
            case 5 -> {
                if (random.nextInt(3) == 0) {
                    check(run, i, "wins(" + w + "," + s + "," + z + ")", x.wins(w, s, z), m.wins(w, s, z));
                }
            }
            case 6 -> {
                if (random.nextInt(6) == 0) {
                    check(run, i, "fairest(" + s + "," + z + ")", x.fairest(s, z), m.fairest(s, z));
                }
            }
            case 7 -> { if (random.nextInt(3) == 0) check(run, i, "shortest()", x.shortest(), m.shortest()); }
            case 8 -> { int t = within(1, 300); check(run, i, "row(" + t + ")", x.row(t), m.row(t)); }
            case 9 -> { int t = 8 * within(1, 20); check(run, i, "row(" + t + ")", x.row(t), m.row(t)); }
            case 10 -> check(run, i, "could()", x.could(), m.could());
            case 11 -> {
                int t = within(1, 300);
                if (random.nextInt(4) == 0) check(run, i, "next(" + t + ")", x.next(t), m.next(t));
            }
            case 12 -> {
                int a = within(0, 1);
                check(run, i, "team(" + w + "," + v + "," + n + "," + a + ")", x.team(w, v, n, a), m.team(w, v, n, a));
            }
            case 13 -> film(run, i, w);
            case 14 -> { int p = place(); check(run, i, "film(" + p + ")", x.film(p), m.film(p)); }
            default -> {
                if (random.nextInt(6) == 0) check(run, i, "image()", x.image(), m.image());
                if (random.nextInt(8) == 0) check(run, i, "restore()", x.restore(), m.restore());
            }
        }
    }

    /** Mostly a true film, sometimes spoilt, so that its judgement goes far into it. */
    private void film(int run, int i, int w) {
        int length = random.nextInt(12);
        if (!m.out(w)) {
            Model.World ahead = m.now.copy();
            for (int k = 0; k < m.film.size(); k++) ahead.walk();
            for (int k = 0; k < length; k++) {
                ahead.walk();
                int p = random.nextInt(20) == 0 ? place() : ahead.people.get(w).place;
                check(run, i, "film(" + p + ")", x.film(p), m.film(p));
            }
        }
        check(run, i, "judge(" + w + ")", x.judge(w), m.judge(w));
    }
}
