import java.util.ArrayList;
import java.util.Arrays;
import java.util.HashSet;
import java.util.List;
import java.util.Set;
import java.util.TreeSet;
import java.util.function.ToIntFunction;
import java.util.regex.Matcher;
import java.util.regex.Pattern;

/** The document written a second time, slowly and with the whole Java library. */
final class Model {
    static final class Person {
        int place, parts, kind, fast, slow, reach = 9, size = 5, manners = 5;
        boolean in = true;

        Person copy() {
            Person p = new Person();
            p.place = place; p.parts = parts; p.kind = kind; p.fast = fast; p.slow = slow;
            p.reach = reach; p.size = size; p.manners = manners; p.in = in;
            return p;
        }
    }

    static final class World {
        int n = 24, playerKind = 0, figure = 10, z = 1, form = 0, tenths = 0, rounds = 0;
        boolean ended = false;
        TreeSet<Integer> chairs = new TreeSet<>();
        List<Person> people = new ArrayList<>();

        World copy() {
            World w = new World();
            w.n = n; w.playerKind = playerKind; w.figure = figure; w.z = z; w.form = form;
            w.tenths = tenths; w.rounds = rounds; w.ended = ended;
            w.chairs = new TreeSet<>(chairs);
            for (Person p : people) w.people.add(p.copy());
            return w;
        }

        int far(int a, int b) { return Math.min(Math.floorMod(a - b, n), Math.floorMod(b - a, n)); }

        Person standingAt(int place) {
            for (Person p : people) if (p.in && p.place == place) return p;
            return null;
        }

        int inCount() { return (int) people.stream().filter(p -> p.in).count(); }

        void walk() {
            for (Person p : people) {
                if (!p.in) continue;
                p.parts += chairs.contains(p.place) ? p.slow : p.fast;
                if (p.parts >= 100) {
                    int next = (p.place + 1) % n;
                    if (standingAt(next) == null) { p.place = next; p.parts -= 100; } else p.parts = 99;
                }
            }
        }

        boolean tenth() {
            walk();
            tenths++;
            z = z * 1103515245 + 12345;
            int draw = ((z & 0x7fffffff) >> 16) % 100;
            boolean even = draw < figure;
            boolean stops = switch (playerKind) {
                case 0 -> even;
                case 1 -> even && tenths % 8 == 0;
                case 2 -> even && tenths >= figure;
                case 3 -> {
                    Person p = people.get(figure % people.size());
                    yield p.in && chairs.contains(p.place);
                }
                default -> tenths == figure;
            };
            return stops || tenths == 300;
        }

        int haste(Person p, int place) { return Math.max(0, raw(p, place, p.kind)); }

        int raw(Person p, int place, int kind) {
            return switch (kind) {
                case 0 -> far(p.place, place) * 100 / p.fast;
                case 1 -> raw(p, place, 0) - p.size;
                case 2 -> raw(p, place, 0) + p.size;
                case 3 -> raw(p, place, 1) - (9 - p.manners);
                case 4 -> raw(p, place, 0) * 2;
                case 5 -> raw(p, place, 1) / 2;
                default -> raw(p, place, 2) + p.manners;
            };
        }

        boolean reaches(Person p, int place) { return far(p.place, place) <= p.reach; }

        Integer[] seats() {
            Integer[] seat = new Integer[people.size()];
            Set<Integer> free = new TreeSet<>(chairs);
            while (true) {
                int[] best = null;
                for (int w = 0; w < seat.length; w++) {
                    Person p = people.get(w);
                    if (!p.in || seat[w] != null) continue;
                    for (int c : free) {
                        if (!reaches(p, c)) continue;
                        int[] pair = {haste(p, c), w, c};
                        if (best == null || Arrays.compare(pair, best) < 0) best = pair;
                    }
                }
                if (best == null) break;
                seat[best[1]] = best[2];
                free.remove(best[2]);
            }
            for (int w = 0; w < seat.length; w++) {
                if (seat[w] == null || people.get(w).kind != 6) continue;
                int c = seat[w];
                for (int u = 0; u < seat.length; u++) {
                    Person p = people.get(u);
                    if (p.in && seat[u] == null && reaches(p, c) && haste(p, c) <= haste(people.get(w), c)) {
                        seat[u] = c;
                        seat[w] = null;
                        break;
                    }
                }
            }
            return seat;
        }

        int goer() {
            Integer[] seat = seats();
            int goer = -9, farthest = -1;
            for (int w = seat.length - 1; w >= 0; w--) {
                Person p = people.get(w);
                if (!p.in || seat[w] != null) continue;
                int near = 1000;
                for (int c : chairs) near = Math.min(near, far(p.place, c));
                if (near > farthest) { farthest = near; goer = w; }
            }
            return goer;
        }

        int leaving() {
            if (chairs.size() < 2 || goer() < 0) return -9;
            if (form == 0) return chairs.first();
            if (form == 1) return chairs.last();
            List<Integer> ring = new ArrayList<>(chairs);
            int best = -1, sum = 10000;
            for (int i = 0; i < ring.size(); i++) {
                int before = ring.get((i + ring.size() - 1) % ring.size());
                int behind = ring.get((i + 1) % ring.size());
                int ways = Math.floorMod(ring.get(i) - before, n) + Math.floorMod(behind - ring.get(i), n);
                if (ways < sum) { sum = ways; best = ring.get(i); }
            }
            return best;
        }

        int end() {
            int goer = goer();
            int chair = leaving();
            if (goer >= 0) people.get(goer).in = false;
            if (chair >= 0) chairs.remove(chair);
            tenths = 0;
            rounds++;
            ended = goer < 0 || inCount() == 1;
            return goer;
        }

        boolean stuck() { return ended || inCount() < 2 || chairs.isEmpty(); }

        int[] playOut() {
            int t = 0, r = 0;
            while (!ended) {
                t++;
                if (tenth()) { end(); r++; }
            }
            int winner = -9;
            if (inCount() == 1) for (int w = 0; w < people.size(); w++) if (people.get(w).in) winner = w;
            return new int[] {t, r, winner};
        }

        int chairFault(int place) {
            if (place < 0 || place >= n) return -1;
            if (chairs.contains(place)) return -3;
            return chairs.size() == 11 ? -6 : 0;
        }

        int chair(int place) {
            chairs.add(place);
            ended = false;
            return chairs.size();
        }

        int walkerFault(int place, int kind, int fast) {
            if (place < 0 || place >= n || kind < 0 || kind > 6) return -1;
            if (fast < 1) return -4;
            if (fast > 99 || people.size() == 12) return -6;
            return standingAt(place) != null ? -3 : 0;
        }

        int walker(int place, int kind, int fast) {
            Person p = new Person();
            p.place = place; p.kind = kind; p.fast = fast; p.slow = Math.max(1, fast / 2);
            people.add(p);
            ended = false;
            return people.size() - 1;
        }
    }

    World now = new World();
    World image = null;
    List<Integer> row = new ArrayList<>();
    List<Integer> film = new ArrayList<>();
    StringBuilder text = new StringBuilder();
    int[] refusals = new int[7];

    int no(int number) { refusals[-number]++; return number; }

    boolean none(int w) { return w < 0 || w >= now.people.size(); }

    boolean out(int w) { return none(w) || !now.people.get(w).in; }

    static int range(int v, int least, int most) { return v < least ? -4 : v > most ? -6 : 0; }

    int feed(int n, long bytes) {
        if (n < 1) return no(-4);
        if (n > 8 || text.length() + n > 64) return no(-6);
        for (int i = 0; i < n; i++) text.append((char) ((bytes >> (8 * i)) & 255));
        return text.length();
    }

    private static final String NUM = "(0|[1-9][0-9]{0,2})";
    private static final Pattern STATEMENT = Pattern.compile(
        "n" + NUM + ";|c" + NUM + ";|w" + NUM + ",([0-9])," + NUM + ";|p([0-9])," + NUM + ";|f([0-9]);");
    private static final Pattern ALL = Pattern.compile("(?:" + STATEMENT.pattern() + ")+");

    /** The longest beginning of the text with which a party can go on. */
    private static int misfit(String s) {
        for (int i = 0; i < s.length(); i++) {
            Matcher m = ALL.matcher(s.substring(0, i + 1));
            if (!m.matches() && !m.hitEnd()) return i;
        }
        return s.length();
    }

    int party() {
        String s = text.toString();
        text.setLength(0);
        if (!ALL.matcher(s).matches()) return -1000 - misfit(s);
        World w = now.copy();
        Matcher m = STATEMENT.matcher(s);
        int count = 0;
        while (m.find()) {
            List<Integer> v = new ArrayList<>();
            for (int g = 1; g <= m.groupCount(); g++) if (m.group(g) != null) v.add(Integer.parseInt(m.group(g)));
            boolean good = true;
            switch (s.charAt(m.start())) {
                case 'n' -> {
                    good = range(v.get(0), 4, 60) == 0 && w.chairs.isEmpty() && w.people.isEmpty();
                    if (good) w.n = v.get(0);
                }
                case 'c' -> {
                    good = w.chairFault(v.get(0)) == 0;
                    if (good) w.chair(v.get(0));
                }
                case 'w' -> {
                    good = w.walkerFault(v.get(0), v.get(1), v.get(2)) == 0;
                    if (good) w.walker(v.get(0), v.get(1), v.get(2));
                }
                case 'p' -> {
                    good = v.get(0) < 5 && range(v.get(1), 1, 99) == 0;
                    w.playerKind = v.get(0);
                    w.figure = v.get(1);
                }
                default -> {
                    good = v.get(0) < 3;
                    w.form = v.get(0);
                }
            }
            if (!good) return -2000 - m.start();
            count++;
        }
        now = w;
        return count;
    }

    int chair(int place) {
        int f = now.chairFault(place);
        return f != 0 ? no(f) : now.chair(place);
    }

    int walker(int place, int kind, int fast) {
        int f = now.walkerFault(place, kind, fast);
        return f != 0 ? no(f) : now.walker(place, kind, fast);
    }

    int set(int walker, int what, int v) {
        if (none(walker)) return no(-1);
        if (what < 0 || what > 5) return no(-2);
        int[] least = {1, 1, 0, 0, 0, 0};
        int[] most = {99, 99, 9, 9, 9, 6};
        if (range(v, least[what], most[what]) != 0) return no(range(v, least[what], most[what]));
        Person p = now.people.get(walker);
        int[] old = {p.fast, p.slow, p.reach, p.size, p.manners, p.kind};
        if (what == 0) p.fast = v;
        if (what == 1) p.slow = v;
        if (what == 2) p.reach = v;
        if (what == 3) p.size = v;
        if (what == 4) p.manners = v;
        if (what == 5) p.kind = v;
        return old[what];
    }

    int player(int kind, int figure) {
        if (kind < 0 || kind > 4) return no(-1);
        if (range(figure, 1, 99) != 0) return no(range(figure, 1, 99));
        int old = now.playerKind;
        now.playerKind = kind;
        now.figure = figure;
        return old;
    }

    int form(int form) {
        if (range(form, 0, 2) != 0) return no(range(form, 0, 2));
        int old = now.form;
        now.form = form;
        return old;
    }

    int seed(int z) {
        int old = now.z;
        now.z = z;
        return old;
    }

    int of(int walker, int what) {
        if (none(walker)) return no(-1);
        if (what < 0 || what > 5) return no(-2);
        Person p = now.people.get(walker);
        return new int[] {p.place, p.parts, p.in ? 1 : 0, p.kind, p.fast, p.slow}[what];
    }

    boolean nowhere(int place) { return place < 0 || place >= now.n; }

    int has(int place) {
        if (nowhere(place)) return no(-1);
        return now.chairs.contains(place) ? 1 : 0;
    }

    int haste(int walker, int place) {
        if (none(walker) || nowhere(place)) return no(-1);
        return now.haste(now.people.get(walker), place);
    }

    int go(int n) {
        if (now.stuck()) return no(-3);
        if (range(n, 1, 300) != 0) return no(range(n, 1, 300));
        while (n-- > 0) {
            if (now.tenth()) {
                now.end();
                return now.ended ? 2 : 1;
            }
        }
        return 0;
    }

    int stop() { return now.stuck() ? no(-3) : now.end(); }

    int sits(int walker) {
        if (out(walker)) return no(-1);
        Integer seat = now.seats()[walker];
        return seat == null ? -9 : seat;
    }

    int would(int what) {
        if (what != 0 && what != 1) return no(-2);
        return what == 0 ? now.goer() : now.leaving();
    }

    private int oddsIf(int walker, int n, int slow) {
        World w = now.copy();
        w.people.get(walker).slow = slow;
        int odds = 0;
        while (n-- > 0) {
            w.walk();
            if (w.seats()[walker] != null) odds++;
        }
        return odds;
    }

    private int oddsNow(int walker, int n) { return oddsIf(walker, n, now.people.get(walker).slow); }

    int odds(int walker, int n) {
        if (out(walker)) return no(-1);
        if (range(n, 1, 200) != 0) return no(range(n, 1, 200));
        return oddsNow(walker, n);
    }

    int fair(int n) {
        if (range(n, 1, 200) != 0) return no(range(n, 1, 200));
        List<Integer> all = new ArrayList<>();
        for (int w = 0; w < now.people.size(); w++) if (!out(w)) all.add(oddsNow(w, n));
        return all.isEmpty() ? 0
            : all.stream().max(Integer::compare).get() - all.stream().min(Integer::compare).get();
    }

    int bestSlow(int walker, int n) {
        if (none(walker)) return no(-1);
        if (range(n, 1, 200) != 0) return no(range(n, 1, 200));
        int best = 90;
        for (int slow = 80; slow >= 10; slow -= 10) {
            if (oddsIf(walker, n, slow) >= oddsIf(walker, n, best)) best = slow;
        }
        return best;
    }

    int cheat(int walker, int n) {
        if (none(walker)) return no(-1);
        if (range(n, 1, 200) != 0) return no(range(n, 1, 200));
        int odds = oddsNow(walker, n);
        for (int slow = 1; slow < 100; slow += 10) {
            int then = oddsIf(walker, n, slow);
            if (then > odds) return then - odds;
        }
        return 0;
    }

    int lasts(int what) {
        if (what < 0 || what > 2) return no(-2);
        return now.stuck() ? no(-3) : now.copy().playOut()[what];
    }

    int wins(int walker, int n, int z) {
        if (none(walker)) return no(-1);
        if (range(n, 1, 20) != 0) return no(range(n, 1, 20));
        if (now.stuck()) return no(-3);
        int wins = 0;
        for (int i = 0; i < n; i++) {
            World w = now.copy();
            w.z = z + i;
            if (w.playOut()[2] == walker) wins++;
        }
        return wins;
    }

    int fairest(int n, int z) {
        if (range(n, 1, 20) != 0) return no(range(n, 1, 20));
        if (now.stuck()) return no(-3);
        int[] best = null;
        for (int form = 0; form < 3; form++) {
            Set<Integer> winners = new HashSet<>();
            int tenths = 0;
            for (int i = 0; i < n; i++) {
                World w = now.copy();
                w.z = z + i;
                w.form = form;
                int[] lasts = w.playOut();
                tenths += lasts[0];
                if (lasts[2] >= 0) winners.add(lasts[2]);
            }
            int[] rank = {-winners.size(), tenths, form};
            if (best == null || Arrays.compare(rank, best) < 0) best = rank;
        }
        return best[2];
    }

    int shortest() {
        if (now.stuck()) return no(-3);
        ToIntFunction<Integer> tenths = kind -> {
            World w = now.copy();
            w.playerKind = kind;
            return w.playOut()[0];
        };
        int best = 4;
        for (int kind = 3; kind >= 0; kind--) if (tenths.applyAsInt(kind) <= tenths.applyAsInt(best)) best = kind;
        return best;
    }

    int row(int tenth) {
        if (range(tenth, 1, 300) != 0) return no(range(tenth, 1, 300));
        if (row.size() == 16) return no(-6);
        row.add(tenth);
        return row.size();
    }

    int could() {
        int bits = 1 | 8;
        if (row.stream().allMatch(t -> t % 8 == 0 || t == 300)) bits |= 2;
        if (row.stream().allMatch(t -> t >= now.figure)) bits |= 4;
        if (row.stream().allMatch(t -> t == now.figure)) bits |= 16;
        return bits;
    }

    int next(int tenth) {
        if (range(tenth, 1, 300) != 0) return no(range(tenth, 1, 300));
        if (row.isEmpty()) return no(-3);
        int within = (int) row.stream().filter(t -> t <= tenth).count();
        int size = row.size();
        row.clear();
        return within * 100 / size;
    }

    int team(int one, int other, int n, int what) {
        if (one == other || out(one) || out(other)) return no(-1);
        if (what != 0 && what != 1) return no(-2);
        if (range(n, 1, 200) != 0) return no(range(n, 1, 200));
        World w = now.copy();
        int any = 0, held = 0;
        for (int i = 0; i < n; i++) {
            w.walk();
            Integer[] seat = w.seats();
            if (seat[one] != null || seat[other] != null) any++;
            if (seat[other] != null || (seat[one] != null && w.reaches(w.people.get(other), seat[one]))) held++;
        }
        return what == 1 ? held : any - Math.max(oddsNow(one, n), oddsNow(other, n));
    }

    int film(int place) {
        if (nowhere(place)) return no(-1);
        if (film.size() == 60) return no(-6);
        film.add(place);
        return film.size();
    }

    int judge(int walker) {
        if (out(walker)) return no(-1);
        World w = now.copy();
        int wrong = -9;
        for (int i = 0; i < film.size() && wrong < 0; i++) {
            w.walk();
            if (w.people.get(walker).place != film.get(i)) wrong = i;
        }
        film.clear();
        return wrong;
    }

    int image() {
        image = now.copy();
        return image.people.size();
    }

    int restore() {
        if (image == null) return no(-3);
        now = image.copy();
        return now.people.size();
    }

    int count(int what) {
        return switch (what) {
            case 0 -> now.n;
            case 1 -> now.chairs.size();
            case 2 -> now.people.size();
            case 3 -> now.inCount();
            case 4 -> now.tenths;
            case 5 -> now.rounds;
            case 6 -> row.size();
            case 7 -> film.size();
            case 8 -> text.length();
            case 11, 12, 13, 14, 15, 16 -> refusals[what - 10];
            default -> -9;
        };
    }
}
