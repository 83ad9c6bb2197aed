/**
 * A chair too few: people go round chairs to music that stops.
 *
 * Everything that lasts or is thought of is a Party; there are three of them, all made
 * once: the one that is, the one in mind and the image. No call makes an object.
 */
public final class ChairTooFew {
    private static final int NOBODY = 1;
    private static final int OTHER = 2;
    private static final int STATE = 3;
    private static final int BELOW = 4;
    private static final int ROOM = 6;
    private static final int NONE = -9;

    private static final int LEAST_PLACES = 4;
    private static final int MOST_PLACES = 60;
    private static final int MOST_CHAIRS = 11;
    private static final int MOST_WALKERS = 12;
    private static final int MOST_PACE = 99;
    private static final int MOST_TRAIT = 9;
    private static final int MOST_FIGURE = 99;
    private static final int WALKER_KINDS = 7;
    private static final int PLAYER_KINDS = 5;
    private static final int FORMS = 3;
    private static final int ROUND_TENTHS = 300;
    private static final int MOST_AHEAD = 200;
    private static final int MOST_SEEDS = 20;
    private static final int MOST_STOPS = 16;
    private static final int MOST_BYTES = 64;
    private static final int PARTS = 100;
    private static final int GREATEST = 0x7fffffff;

    private final Mind mind = new Mind();
    private final Party real = mind.real;
    private final Party kept = new Party();
    private final Numbers stops = new Numbers(MOST_STOPS);
    private final Numbers pictures = new Numbers(MOST_PLACES);
    private final Text text = new Text();
    private final int[] refusals = new int[ROOM + 1];
    private boolean imageTaken = false;

    public ChairTooFew() {
    }

    public int feed(int n, long bytes) {
        if (n < 1) {
            return refuse(BELOW);
        }
        if (n > 8 || text.length + n > MOST_BYTES) {
            return refuse(ROOM);
        }
        text.append(n, bytes);
        return text.length;
    }

    public int party() {
        int answer = mind.readParty(text);
        text.length = 0;
        return answer;
    }

    public int chair(int place) {
        int why = real.whyNoChair(place);
        return why != 0 ? refuse(why) : real.addChair(place);
    }

    public int walker(int place, int kind, int fast) {
        int why = real.whyNoWalker(place, kind, fast);
        return why != 0 ? refuse(why) : real.addWalker(place, kind, fast);
    }

    public int set(int walker, int what, int v) {
        if (!real.knows(walker)) {
            return refuse(NOBODY);
        }
        if (what < 0 || what > 5) {
            return refuse(OTHER);
        }
        if (v < leastOf(what)) {
            return refuse(BELOW);
        }
        if (v > greatestOf(what)) {
            return refuse(ROOM);
        }
        return real.walkers[walker].change(what, v);
    }

    public int player(int kind, int figure) {
        int why = real.player.whyNot(kind, figure);
        if (why != 0) {
            return refuse(why);
        }
        int old = real.player.kind;
        real.player.kind = kind;
        real.player.figure = figure;
        return old;
    }

    public int form(int form) {
        int why = whyNotWithin(form, 0, FORMS - 1);
        if (why != 0) {
            return refuse(why);
        }
        int old = real.form;
        real.form = form;
        return old;
    }

    public int seed(int z) {
        int old = real.player.z;
        real.player.z = z;
        return old;
    }

    public int of(int walker, int what) {
        if (!real.knows(walker)) {
            return refuse(NOBODY);
        }
        if (what < 0 || what > 5) {
            return refuse(OTHER);
        }
        return real.walkers[walker].tell(what);
    }

    public int has(int place) {
        if (!real.ring.isPlace(place)) {
            return refuse(NOBODY);
        }
        return real.ring.hasChair(place) ? 1 : 0;
    }

    public int haste(int walker, int place) {
        if (!real.knows(walker) || !real.ring.isPlace(place)) {
            return refuse(NOBODY);
        }
        Walker who = real.walkers[walker];
        return who.hasteOver(real.ring.far(who.place, place));
    }

    public int go(int n) {
        int why = real.canGoOn() ? whyNotWithin(n, 1, ROUND_TENTHS) : STATE;
        if (why != 0) {
            return refuse(why);
        }
        for (int i = 0; i < n; i++) {
            if (real.passTenth()) {
                real.endRound();
                return real.ended ? 2 : 1;
            }
        }
        return 0;
    }

    public int stop() {
        return real.canGoOn() ? real.endRound() : refuse(STATE);
    }

    public int sits(int walker) {
        if (!real.knowsIn(walker)) {
            return refuse(NOBODY);
        }
        real.seating.seatAll(real);
        return real.seating.placeOf(walker, real.ring);
    }

    public int would(int what) {
        if (what < 0 || what > 1) {
            return refuse(OTHER);
        }
        real.seating.seatAll(real);
        int goer = real.whoGoes();
        if (what == 0) {
            return goer;
        }
        return real.losesChair(goer) ? real.ring.leavingPlace(real.form) : NONE;
    }

    public int odds(int walker, int n) {
        int why = real.knowsIn(walker) ? whyNotWithin(n, 1, MOST_AHEAD) : NOBODY;
        return why != 0 ? refuse(why) : mind.oddsAt(walker, n, real.walkers[walker].slow);
    }

    public int fair(int n) {
        int why = whyNotWithin(n, 1, MOST_AHEAD);
        return why != 0 ? refuse(why) : mind.unfairness(n);
    }

    public int bestSlow(int walker, int n) {
        int why = real.knows(walker) ? whyNotWithin(n, 1, MOST_AHEAD) : NOBODY;
        return why != 0 ? refuse(why) : mind.slowOfGreatestOdds(walker, n);
    }

    public int cheat(int walker, int n) {
        int why = real.knows(walker) ? whyNotWithin(n, 1, MOST_AHEAD) : NOBODY;
        return why != 0 ? refuse(why) : mind.gainOfCheating(walker, n);
    }

    public int lasts(int what) {
        if (what < 0 || what > 2) {
            return refuse(OTHER);
        }
        return real.canGoOn() ? mind.partyAhead(what) : refuse(STATE);
    }

    public int wins(int walker, int n, int z) {
        int why = real.knows(walker) ? whyNotSeeds(n) : NOBODY;
        return why != 0 ? refuse(why) : mind.timesWinner(walker, n, z);
    }

    public int fairest(int n, int z) {
        int why = whyNotSeeds(n);
        return why != 0 ? refuse(why) : mind.formOfMostWinners(n, z);
    }

    public int shortest() {
        return real.canGoOn() ? mind.kindOfFewestTenths() : refuse(STATE);
    }

    public int row(int tenth) {
        int why = whyNotWithin(tenth, 1, ROUND_TENTHS);
        if (why == 0 && stops.isFull()) {
            why = ROOM;
        }
        return why != 0 ? refuse(why) : stops.append(tenth);
    }

    public int could() {
        int kinds = 0;
        for (int kind = 0; kind < PLAYER_KINDS; kind++) {
            if (couldAllBeBy(kind)) {
                kinds |= 1 << kind;
            }
        }
        return kinds;
    }

    public int next(int tenth) {
        int why = whyNotWithin(tenth, 1, ROUND_TENTHS);
        if (why == 0 && stops.length == 0) {
            why = STATE;
        }
        if (why != 0) {
            return refuse(why);
        }
        int hundredths = stops.hundredthsUpTo(tenth);
        stops.length = 0;
        return hundredths;
    }

    public int team(int one, int other, int n, int what) {
        if (one == other || !real.knowsIn(one) || !real.knowsIn(other)) {
            return refuse(NOBODY);
        }
        if (what < 0 || what > 1) {
            return refuse(OTHER);
        }
        int why = whyNotWithin(n, 1, MOST_AHEAD);
        if (why != 0) {
            return refuse(why);
        }
        return what == 0 ? mind.teamGain(one, other, n) : mind.sitsWhenHeld(one, other, n);
    }

    public int film(int place) {
        if (!real.ring.isPlace(place)) {
            return refuse(NOBODY);
        }
        return pictures.isFull() ? refuse(ROOM) : pictures.append(place);
    }

    public int judge(int walker) {
        if (!real.knowsIn(walker)) {
            return refuse(NOBODY);
        }
        int wrong = mind.firstWrong(walker, pictures);
        pictures.length = 0;
        return wrong;
    }

    public int image() {
        kept.become(real);
        imageTaken = true;
        return kept.walkerCount;
    }

    public int restore() {
        if (!imageTaken) {
            return refuse(STATE);
        }
        real.become(kept);
        return real.walkerCount;
    }

    public int count(int what) {
        if (what >= 10 + NOBODY && what <= 10 + ROOM) {
            return refusals[what - 10];
        }
        switch (what) {
            case 0: return real.ring.places;
            case 1: return real.ring.chairs;
            case 2: return real.walkerCount;
            case 3: return real.countIn();
            case 4: return real.tenths;
            case 5: return real.rounds;
            case 6: return stops.length;
            case 7: return pictures.length;
            case 8: return text.length;
            default: return NONE;
        }
    }

    private int refuse(int number) {
        if (number >= NOBODY && number <= ROOM) {
            refusals[number]++;
        }
        return -number;
    }

    private int whyNotSeeds(int n) {
        int why = whyNotWithin(n, 1, MOST_SEEDS);
        return why == 0 && !real.canGoOn() ? STATE : why;
    }

    private boolean couldAllBeBy(int kind) {
        boolean all = true;
        for (int i = 0; i < stops.length; i++) {
            all = all && real.player.couldStop(kind, stops.at(i));
        }
        return all;
    }

    private static int whyNotWithin(int n, int least, int greatest) {
        if (n < least) {
            return BELOW;
        }
        return n > greatest ? ROOM : 0;
    }

    private static int leastOf(int trait) {
        return trait < 2 ? 1 : 0;
    }

    private static int greatestOf(int trait) {
        if (trait < 2) {
            return MOST_PACE;
        }
        return trait == 5 ? WALKER_KINDS - 1 : MOST_TRAIT;
    }

    /** One who goes round; all twelve of a party are made with it and wait for their turn to come. */
    private static final class Walker {
        static final int RACED = 1;
        static final int LAPPED = 2;
        static final int PUSHED = 3;
        static final int MISSED = 4;
        static final int FORETOLD = 5;
        static final int JUDGED = 6;

        int place = 0;
        int parts = 0;
        boolean in = false;
        int kind = 0;
        int fast = 1;
        int slow = 1;
        int reach = 0;
        int size = 0;
        int manners = 0;

        void arrive(int atPlace, int ofKind, int atFast) {
            place = atPlace;
            parts = 0;
            in = true;
            kind = ofKind;
            fast = atFast;
            slow = atFast < 2 ? 1 : atFast / 2;
            reach = 9;
            size = 5;
            manners = 5;
        }

        void become(Walker model) {
            place = model.place;
            parts = model.parts;
            in = model.in;
            kind = model.kind;
            fast = model.fast;
            slow = model.slow;
            reach = model.reach;
            size = model.size;
            manners = model.manners;
        }

        int hasteOver(int far) {
            int plain = fast > 0 ? far * 100 / fast : 0;
            int sum;
            switch (kind) {
                case RACED: sum = plain - size; break;
                case LAPPED: sum = plain + size; break;
                case PUSHED: sum = plain - size - (9 - manners); break;
                case MISSED: sum = 2 * plain; break;
                case FORETOLD: sum = (plain - size) / 2; break;
                case JUDGED: sum = plain + size + manners; break;
                default: sum = plain; break;
            }
            return sum < 0 ? 0 : sum;
        }

        int change(int trait, int v) {
            int old;
            switch (trait) {
                case 0: old = fast; fast = v; break;
                case 1: old = slow; slow = v; break;
                case 2: old = reach; reach = v; break;
                case 3: old = size; size = v; break;
                case 4: old = manners; manners = v; break;
                default: old = kind; kind = v; break;
            }
            return old;
        }

        int tell(int what) {
            switch (what) {
                case 0: return place;
                case 1: return parts;
                case 2: return in ? 1 : 0;
                case 3: return kind;
                case 4: return fast;
                default: return slow;
            }
        }
    }

    /** The places and the chairs at them, kept by their places from the least. */
    private static final class Ring {
        int places = 24;
        int chairs = 0;
        private final int[] chairPlaces = new int[MOST_CHAIRS];
        private final boolean[] taken = new boolean[MOST_PLACES];

        void become(Ring model) {
            places = model.places;
            chairs = model.chairs;
            System.arraycopy(model.chairPlaces, 0, chairPlaces, 0, MOST_CHAIRS);
            System.arraycopy(model.taken, 0, taken, 0, MOST_PLACES);
        }

        boolean isPlace(int place) {
            return place >= 0 && place < places;
        }

        boolean hasChair(int place) {
            return place >= 0 && place < MOST_PLACES && taken[place];
        }

        int placeOfChair(int chair) {
            return chair >= 0 && chair < chairs && chair < MOST_CHAIRS ? chairPlaces[chair] : NONE;
        }

        int far(int one, int other) {
            int way = one < other ? other - one : one - other;
            return way > places - way ? places - way : way;
        }

        int farFromChairs(int place) {
            int least = MOST_PLACES;
            for (int c = 0; c < chairs; c++) {
                int far = far(place, placeOfChair(c));
                if (far < least) {
                    least = far;
                }
            }
            return least;
        }

        void putChair(int place) {
            if (chairs >= MOST_CHAIRS || place < 0 || place >= MOST_PLACES) {
                return;
            }
            int c = chairs;
            for (; c > 0 && chairPlaces[c - 1] > place; c--) {
                chairPlaces[c] = chairPlaces[c - 1];
            }
            chairPlaces[c] = place;
            taken[place] = true;
            chairs++;
        }

        void takeChair(int place) {
            if (!hasChair(place)) {
                return;
            }
            int left = 0;
            for (int c = 0; c < chairs && c < MOST_CHAIRS; c++) {
                if (chairPlaces[c] != place) {
                    chairPlaces[left] = chairPlaces[c];
                    left++;
                }
            }
            chairs = left;
            taken[place] = false;
        }

        int leavingPlace(int form) {
            if (form == 0) {
                return placeOfChair(0);
            }
            return placeOfChair(form == 1 ? chairs - 1 : mostCrowdedChair());
        }

        private int mostCrowdedChair() {
            int crowded = 0;
            int least = GREATEST;
            for (int c = 0; c < chairs; c++) {
                int before = placeOfChair(c > 0 ? c - 1 : chairs - 1);
                int behind = placeOfChair(c < chairs - 1 ? c + 1 : 0);
                int ways = wayOn(before, placeOfChair(c)) + wayOn(placeOfChair(c), behind);
                if (ways < least) {
                    least = ways;
                    crowded = c;
                }
            }
            return crowded;
        }

        private int wayOn(int from, int to) {
            return to > from ? to - from : to - from + places;
        }
    }

    /** Who makes the music; z is the last number of the draws. */
    private static final class Player {
        static final int EVEN = 0;
        static final int PHRASE = 1;
        static final int LONG = 2;
        static final int LIKING = 3;

        int kind = EVEN;
        int figure = 10;
        int z = 1;

        void become(Player model) {
            kind = model.kind;
            figure = model.figure;
            z = model.z;
        }

        int whyNot(int newKind, int newFigure) {
            if (newKind < 0 || newKind >= PLAYER_KINDS) {
                return NOBODY;
            }
            return whyNotWithin(newFigure, 1, MOST_FIGURE);
        }

        int drawAgain() {
            z = z * 1103515245 + 12345;
            return (z & GREATEST) / 65536 % 100;
        }

        boolean stopsIn(int tenth, int draw, boolean likes) {
            switch (kind) {
                case EVEN: return draw < figure;
                case PHRASE: return tenth % 8 == 0 && draw < figure;
                case LONG: return tenth >= figure && draw < figure;
                case LIKING: return likes;
                default: return tenth == figure;
            }
        }

        boolean couldStop(int byKind, int tenth) {
            switch (byKind) {
                case EVEN: return true;
                case PHRASE: return tenth % 8 == 0 || tenth == ROUND_TENTHS;
                case LONG: return tenth >= figure || tenth == ROUND_TENTHS;
                case LIKING: return true;
                default: return tenth == figure;
            }
        }
    }

    /** Who would sit where; its rows are only good till the party changes. */
    private static final class Seating {
        private static final int OUT_OF_REACH = GREATEST;

        private final int[] seats = new int[MOST_WALKERS];
        private final int[] hastes = new int[MOST_WALKERS * MOST_CHAIRS];
        private final boolean[] free = new boolean[MOST_CHAIRS];
        private int walkers = 0;
        private int chairs = 0;

        void seatAll(Party party) {
            measure(party);
            boolean more = true;
            for (int i = 0; i < chairs && more; i++) {
                more = seatLeastHaste();
            }
            for (int w = 0; w < walkers; w++) {
                if (party.walkers[w].kind == Walker.JUDGED && seats[w] >= 0) {
                    giveWay(w);
                }
            }
        }

        boolean isSeated(int walker) {
            return walker >= 0 && walker < walkers && seats[walker] >= 0;
        }

        int placeOf(int walker, Ring ring) {
            return isSeated(walker) ? ring.placeOfChair(seats[walker]) : NONE;
        }

        private void measure(Party party) {
            walkers = party.walkerCount < MOST_WALKERS ? party.walkerCount : MOST_WALKERS;
            chairs = party.ring.chairs < MOST_CHAIRS ? party.ring.chairs : MOST_CHAIRS;
            for (int c = 0; c < chairs; c++) {
                free[c] = true;
            }
            for (int w = 0; w < walkers; w++) {
                Walker who = party.walkers[w];
                seats[w] = -1;
                for (int c = 0; c < chairs; c++) {
                    int far = party.ring.far(who.place, party.ring.placeOfChair(c));
                    boolean reached = who.in && far <= who.reach;
                    hastes[w * MOST_CHAIRS + c] = reached ? who.hasteOver(far) : OUT_OF_REACH;
                }
            }
        }

        // Chairs stand by their places, so the first pair found is the one of the least walker and place.
        private boolean seatLeastHaste() {
            int least = OUT_OF_REACH;
            int walker = -1;
            int chair = -1;
            for (int w = 0; w < walkers; w++) {
                for (int c = 0; c < chairs && seats[w] < 0; c++) {
                    if (free[c] && hastes[w * MOST_CHAIRS + c] < least) {
                        least = hastes[w * MOST_CHAIRS + c];
                        walker = w;
                        chair = c;
                    }
                }
            }
            if (walker < 0 || chair < 0) {
                return false;
            }
            seats[walker] = chair;
            free[chair] = false;
            return true;
        }

        private void giveWay(int giver) {
            int chair = seats[giver];
            int haste = hastes[giver * MOST_CHAIRS + chair];
            for (int w = 0; w < walkers; w++) {
                if (seats[w] < 0 && hastes[w * MOST_CHAIRS + chair] <= haste) {
                    seats[w] = chair;
                    seats[giver] = -1;
                    return;
                }
            }
        }
    }

    /** All that an image holds: the ring, the walkers, the player and how far the round is. */
    private static final class Party {
        final Ring ring = new Ring();
        final Player player = new Player();
        final Seating seating = new Seating();
        final Walker[] walkers = new Walker[MOST_WALKERS];
        private final boolean[] stoodOn = new boolean[MOST_PLACES];
        int walkerCount = 0;
        int form = 0;
        int tenths = 0;
        int rounds = 0;
        boolean ended = false;

        Party() {
            for (int w = 0; w < MOST_WALKERS; w++) {
                walkers[w] = new Walker();
            }
        }

        void become(Party model) {
            ring.become(model.ring);
            player.become(model.player);
            walkerCount = model.walkerCount;
            for (int w = 0; w < walkerCount && w < MOST_WALKERS; w++) {
                walkers[w].become(model.walkers[w]);
            }
            System.arraycopy(model.stoodOn, 0, stoodOn, 0, MOST_PLACES);
            form = model.form;
            tenths = model.tenths;
            rounds = model.rounds;
            ended = model.ended;
        }

        boolean knows(int walker) {
            return walker >= 0 && walker < walkerCount && walker < MOST_WALKERS;
        }

        boolean knowsIn(int walker) {
            return walker >= 0 && walker < walkerCount && walker < MOST_WALKERS && walkers[walker].in;
        }

        int countIn() {
            int in = 0;
            for (int w = 0; w < walkerCount; w++) {
                if (knowsIn(w)) {
                    in++;
                }
            }
            return in;
        }

        boolean canGoOn() {
            return !ended && countIn() >= 2 && ring.chairs > 0;
        }

        boolean isStoodOn(int place) {
            return place >= 0 && place < MOST_PLACES && stoodOn[place];
        }

        private void mark(int place, boolean stood) {
            if (place >= 0 && place < MOST_PLACES) {
                stoodOn[place] = stood;
            }
        }

        int whyNoChair(int place) {
            if (!ring.isPlace(place)) {
                return NOBODY;
            }
            if (ring.hasChair(place)) {
                return STATE;
            }
            return ring.chairs >= MOST_CHAIRS ? ROOM : 0;
        }

        int addChair(int place) {
            ring.putChair(place);
            ended = false;
            return ring.chairs;
        }

        int whyNoWalker(int place, int kind, int fast) {
            if (!ring.isPlace(place) || kind < 0 || kind >= WALKER_KINDS) {
                return NOBODY;
            }
            int why = whyNotWithin(fast, 1, MOST_PACE);
            if (why != 0) {
                return why;
            }
            if (walkerCount >= MOST_WALKERS) {
                return ROOM;
            }
            return isStoodOn(place) ? STATE : 0;
        }

        int addWalker(int place, int kind, int fast) {
            int number = walkerCount;
            if (number >= 0 && number < MOST_WALKERS) {
                walkers[number].arrive(place, kind, fast);
                mark(place, true);
                walkerCount = number + 1;
                ended = false;
            }
            return number;
        }

        void walkAll() {
            for (int w = 0; w < walkerCount && w < MOST_WALKERS; w++) {
                if (walkers[w].in) {
                    walk(walkers[w]);
                }
            }
        }

        private void walk(Walker who) {
            who.parts += ring.hasChair(who.place) ? who.slow : who.fast;
            if (who.parts < PARTS) {
                return;
            }
            int ahead = who.place + 1 < ring.places ? who.place + 1 : 0;
            if (isStoodOn(ahead)) {
                who.parts = PARTS - 1;
            } else {
                mark(who.place, false);
                mark(ahead, true);
                who.parts -= PARTS;
                who.place = ahead;
            }
        }

        /** A tenth goes by: whether the round stops in it. */
        boolean passTenth() {
            walkAll();
            tenths++;
            int draw = player.drawAgain();
            return tenths >= ROUND_TENTHS || player.stopsIn(tenths, draw, isLikedAtChair());
        }

        private boolean isLikedAtChair() {
            int liked = player.kind == Player.LIKING && walkerCount > 0 ? player.figure % walkerCount : NONE;
            return knowsIn(liked) && ring.hasChair(walkers[liked].place);
        }

        /** The round stops here: who goes. */
        int endRound() {
            seating.seatAll(this);
            int goer = whoGoes();
            if (losesChair(goer)) {
                ring.takeChair(ring.leavingPlace(form));
            }
            if (knows(goer)) {
                walkers[goer].in = false;
                mark(walkers[goer].place, false);
            }
            tenths = 0;
            rounds++;
            ended = goer < 0 || countIn() <= 1;
            return goer;
        }

        boolean losesChair(int goer) {
            return goer >= 0 && ring.chairs > 1;
        }

        /** Of those whom the seating left standing. */
        int whoGoes() {
            int goer = NONE;
            int farthest = -1;
            for (int w = 0; w < walkerCount; w++) {
                if (knowsIn(w) && !seating.isSeated(w)) {
                    int far = ring.farFromChairs(walkers[w].place);
                    if (far >= farthest) {
                        farthest = far;
                        goer = w;
                    }
                }
            }
            return goer;
        }

        int winner() {
            int last = NONE;
            for (int w = 0; w < walkerCount; w++) {
                if (knowsIn(w)) {
                    last = w;
                }
            }
            return countIn() == 1 ? last : NONE;
        }
    }

    /** What is thought through on a party of its own, begun anew from the real one each time. */
    private static final class Mind {
        // More than twelve rounds can't come: in each one somebody goes, or it is the last.
        private static final int PARTY_TENTHS = (MOST_WALKERS + 1) * ROUND_TENTHS;

        final Party real = new Party();
        private final Party thought = new Party();
        private final int[] times = new int[MOST_WALKERS];
        private int tenthsAhead = 0;
        private int roundsAhead = 0;

        /** The party that a text tells comes, or nothing and the fault is told. */
        int readParty(Text text) {
            int wrong = text.firstMisfit();
            if (wrong >= 0) {
                return -1000 - wrong;
            }
            thought.become(real);
            wrong = text.firstImpossible(thought);
            if (wrong >= 0) {
                return -2000 - wrong;
            }
            real.become(thought);
            return text.statements;
        }

        int oddsAt(int walker, int n, int slow) {
            thought.become(real);
            if (!thought.knowsIn(walker)) {
                return 0;
            }
            thought.walkers[walker].slow = slow;
            int sum = 0;
            for (int i = 0; i < n; i++) {
                seatBehindTenth();
                if (thought.seating.isSeated(walker)) {
                    sum++;
                }
            }
            return sum;
        }

        int unfairness(int n) {
            countSeatedTimes(n);
            int greatest = 0;
            int least = n;
            for (int w = 0; w < MOST_WALKERS; w++) {
                if (real.knowsIn(w)) {
                    greatest = Math.max(greatest, times[w]);
                    least = Math.min(least, times[w]);
                }
            }
            return Math.max(0, greatest - least);
        }

        int slowOfGreatestOdds(int walker, int n) {
            int best = 10;
            int most = -1;
            for (int slow = 10; slow <= 90; slow += 10) {
                int odds = oddsAt(walker, n, slow);
                if (odds > most) {
                    most = odds;
                    best = slow;
                }
            }
            return best;
        }

        int gainOfCheating(int walker, int n) {
            if (!real.knowsIn(walker)) {
                return 0;
            }
            int now = oddsAt(walker, n, real.walkers[walker].slow);
            for (int slow = 1; slow <= 91 && now < n; slow += 10) {
                int odds = oddsAt(walker, n, slow);
                if (odds > now) {
                    return odds - now;
                }
            }
            return 0;
        }

        int partyAhead(int what) {
            thought.become(real);
            playOut();
            if (what == 0) {
                return tenthsAhead;
            }
            return what == 1 ? roundsAhead : thought.winner();
        }

        int timesWinner(int walker, int n, int z) {
            int won = 0;
            for (int i = 0; i < n; i++) {
                thought.become(real);
                thought.player.z = z + i;
                playOut();
                if (thought.winner() == walker) {
                    won++;
                }
            }
            return won;
        }

        int formOfMostWinners(int n, int z) {
            int best = 0;
            int mostWinners = -1;
            int fewestTenths = 0;
            for (int form = 0; form < FORMS; form++) {
                int winners = 0;
                int tenths = 0;
                for (int i = 0; i < n; i++) {
                    thought.become(real);
                    thought.form = form;
                    thought.player.z = z + i;
                    playOut();
                    winners |= bitOf(thought.winner());
                    tenths += tenthsAhead;
                }
                int unlike = Integer.bitCount(winners);
                if (unlike > mostWinners || (unlike == mostWinners && tenths < fewestTenths)) {
                    best = form;
                    mostWinners = unlike;
                    fewestTenths = tenths;
                }
            }
            return best;
        }

        int kindOfFewestTenths() {
            int best = 0;
            int fewest = GREATEST;
            for (int kind = 0; kind < PLAYER_KINDS; kind++) {
                thought.become(real);
                thought.player.kind = kind;
                playOut();
                if (tenthsAhead < fewest) {
                    fewest = tenthsAhead;
                    best = kind;
                }
            }
            return best;
        }

        int teamGain(int one, int other, int n) {
            thought.become(real);
            int ofOne = 0;
            int ofOther = 0;
            int ofAny = 0;
            for (int i = 0; i < n; i++) {
                seatBehindTenth();
                boolean oneSits = thought.seating.isSeated(one);
                boolean otherSits = thought.seating.isSeated(other);
                ofOne += oneSits ? 1 : 0;
                ofOther += otherSits ? 1 : 0;
                ofAny += oneSits || otherSits ? 1 : 0;
            }
            return ofAny - Math.max(ofOne, ofOther);
        }

        int sitsWhenHeld(int one, int other, int n) {
            thought.become(real);
            if (!thought.knowsIn(other)) {
                return 0;
            }
            Walker waiting = thought.walkers[other];
            int sum = 0;
            for (int i = 0; i < n; i++) {
                seatBehindTenth();
                int held = thought.seating.placeOf(one, thought.ring);
                boolean given = held >= 0 && thought.ring.far(waiting.place, held) <= waiting.reach;
                if (given || thought.seating.isSeated(other)) {
                    sum++;
                }
            }
            return sum;
        }

        int firstWrong(int walker, Numbers pictures) {
            thought.become(real);
            if (!thought.knowsIn(walker)) {
                return NONE;
            }
            for (int i = 0; i < pictures.length; i++) {
                thought.walkAll();
                if (thought.walkers[walker].place != pictures.at(i)) {
                    return i;
                }
            }
            return NONE;
        }

        private void seatBehindTenth() {
            thought.walkAll();
            thought.seating.seatAll(thought);
        }

        private void countSeatedTimes(int n) {
            thought.become(real);
            for (int w = 0; w < MOST_WALKERS; w++) {
                times[w] = 0;
            }
            for (int i = 0; i < n; i++) {
                seatBehindTenth();
                for (int w = 0; w < MOST_WALKERS; w++) {
                    times[w] += thought.seating.isSeated(w) ? 1 : 0;
                }
            }
        }

        private void playOut() {
            tenthsAhead = 0;
            roundsAhead = 0;
            for (int i = 0; i < PARTY_TENTHS && !thought.ended; i++) {
                tenthsAhead++;
                if (thought.passTenth()) {
                    thought.endRound();
                    roundsAhead++;
                }
            }
        }

        private static int bitOf(int walker) {
            return walker >= 0 ? 1 << walker : 0;
        }
    }

    /** A row of numbers up to a length. */
    private static final class Numbers {
        private final int[] numbers;
        int length = 0;

        Numbers(int most) {
            numbers = new int[most > 0 ? most : 0];
        }

        boolean isFull() {
            return length >= numbers.length;
        }

        int append(int number) {
            if (!isFull()) {
                numbers[length] = number;
                length++;
            }
            return length;
        }

        int at(int i) {
            return i >= 0 && i < length ? numbers[i] : NONE;
        }

        int hundredthsUpTo(int greatest) {
            int within = 0;
            for (int i = 0; i < length; i++) {
                if (numbers[i] <= greatest) {
                    within++;
                }
            }
            return length > 0 ? within * 100 / length : 0;
        }
    }

    /** The bytes of a party that are there so far; it is read statement by statement. */
    private static final class Text {
        private static final char NUMBER = '#';
        private static final char DIGIT = 'd';

        private final byte[] bytes = new byte[MOST_BYTES];
        private final int[] values = new int[3];
        private int at = 0;
        private int used = 0;
        int length = 0;
        int statements = 0;

        void append(int n, long low) {
            for (int i = 0; i < n && length < MOST_BYTES; i++) {
                bytes[length] = (byte) (low >>> (8 * i));
                length++;
            }
        }

        /** The place of the first byte with which no party goes on; -1 if there is none. */
        int firstMisfit() {
            begin();
            for (int i = 0; i < MOST_BYTES && (i == 0 || at < length); i++) {
                if (!readStatement()) {
                    return at;
                }
            }
            return -1;
        }

        /** The place of the first statement that can't be behind those ahead of it, which come; -1 if all came. */
        int firstImpossible(Party party) {
            begin();
            for (int i = 0; i < MOST_BYTES && at < length; i++) {
                int start = at;
                int letter = signAhead();
                if (!readStatement() || !comesTrue(letter, party)) {
                    return start;
                }
            }
            return -1;
        }

        private void begin() {
            at = 0;
            statements = 0;
        }

        private boolean readStatement() {
            String shape = shapeOf(signAhead());
            used = 0;
            for (int i = 0; i < shape.length(); i++) {
                if (!readPart(shape.charAt(i))) {
                    return false;
                }
            }
            statements++;
            return !shape.isEmpty();
        }

        private static String shapeOf(int letter) {
            switch (letter) {
                case 'n': return "n#;";
                case 'c': return "c#;";
                case 'w': return "w#,d,#;";
                case 'p': return "pd,#;";
                case 'f': return "fd;";
                default: return "";
            }
        }

        private boolean readPart(char part) {
            if (part == NUMBER) {
                return readDigits(3);
            }
            if (part == DIGIT) {
                return readDigits(1);
            }
            if (signAhead() != part) {
                return false;
            }
            at++;
            return true;
        }

        // Stops behind a 0 that stands first: a digit behind that then does not fit what follows.
        private boolean readDigits(int most) {
            int value = 0;
            int digits = 0;
            while (digits < most && isDigit(signAhead()) && (digits == 0 || value > 0)) {
                value = value * 10 + signAhead() - '0';
                digits++;
                at++;
            }
            if (used < values.length) {
                values[used] = value;
                used++;
            }
            return digits > 0;
        }

        // -1 at the end: the end fits no sign.
        private int signAhead() {
            return at >= 0 && at < length && at < MOST_BYTES ? bytes[at] & 255 : -1;
        }

        private static boolean isDigit(int sign) {
            return sign >= '0' && sign <= '9';
        }

        private boolean comesTrue(int letter, Party party) {
            switch (letter) {
                case 'n': return resize(party);
                case 'c': return seatMore(party);
                case 'w': return walkerMore(party);
                case 'p': return newPlayer(party);
                default: return newForm(party);
            }
        }

        private boolean resize(Party party) {
            boolean possible = whyNotWithin(values[0], LEAST_PLACES, MOST_PLACES) == 0
                    && party.ring.chairs == 0 && party.walkerCount == 0;
            if (possible) {
                party.ring.places = values[0];
            }
            return possible;
        }

        private boolean seatMore(Party party) {
            boolean possible = party.whyNoChair(values[0]) == 0;
            if (possible) {
                party.addChair(values[0]);
            }
            return possible;
        }

        private boolean walkerMore(Party party) {
            boolean possible = party.whyNoWalker(values[0], values[1], values[2]) == 0;
            if (possible) {
                party.addWalker(values[0], values[1], values[2]);
            }
            return possible;
        }

        private boolean newPlayer(Party party) {
            boolean possible = party.player.whyNot(values[0], values[1]) == 0;
            if (possible) {
                party.player.kind = values[0];
                party.player.figure = values[1];
            }
            return possible;
        }

        private boolean newForm(Party party) {
            boolean possible = whyNotWithin(values[0], 0, FORMS - 1) == 0;
            if (possible) {
                party.form = values[0];
            }
            return possible;
        }
    }
}
