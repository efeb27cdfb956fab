/** A queue for saying goodbye, as ../shared/DOC.md promises it. */
public final class GoodbyeQuay {
    public static final int NONE = -1;

    private static final int MOST_BYTES = 1600;
    private static final int FED_BYTES = 20;
    private static final int MOST_SHIPS = 5;
    private static final int MOST_PAIRS = 7;
    private static final int MOST_RAILS = 2;
    private static final int MOST_ACTS = 40;
    private static final int MOST_MINUTES = 999;
    private static final int BOXES = 3;

    private static final int MOST_SAILS = 240;
    private static final int MOST_WAITS = 60;
    private static final int MOST_NEEDS = 30;
    private static final int MOST_LOVE = 20;
    private static final int MOST_LENGTH = 60;
    private static final int USUAL_CUSTOM = 11;
    private static final int SEEDS = 1000;
    private static final int QUARREL_MINUTES = 3;

    private static final int MOST_LATER = 240;
    private static final int MOST_FORESEEN = 400;
    private static final int MOST_HELD = 60;
    private static final int LOST_DELAY = 60;
    private static final int NO_BLAME = -1000;
    private static final int NOTHING_LIES = -2;
    private static final int MOST_ODDS = 4;
    private static final int MOST_STEP = 1000;
    private static final int MOST_TIME = 100000;

    private static final int QUEUING = 0;
    private static final int AT_RAIL = 1;
    private static final int SAID = 2;
    private static final int MISSED = 3;
    private static final int GIVEN_UP = 4;

    private static final int[] ORDERS_OF = {1, 1, 2, 6, 24, 120, 720, 5040};

    private final Tape tape;
    private final Reader reader;
    private Told told;
    private Told unused;
    private final State now;
    private final Past past;
    private final int[] boxes;
    private int fullBoxes;
    private final Trial trial;
    private final Orders orders;
    private final Places places;
    private final Sight sight;
    private final int[] counts;
    private final int[] pile;
    private int pileSize;

    public GoodbyeQuay() {
        tape = new Tape();
        told = new Told();
        unused = new Told();
        reader = new Reader(tape, unused);
        now = new State();
        now.begin(told);
        past = new Past();
        past.restart(now);
        boxes = new int[BOXES * State.ROW];
        trial = new Trial(told);
        orders = new Orders(trial);
        places = new Places();
        sight = new Sight();
        counts = new int[1 << MOST_PAIRS];
        pile = new int[MOST_PAIRS];
    }

    // ---- the text ----

    public int feed(int a, int b, int c, int d, int e) {
        if (tape.size + FED_BYTES > MOST_BYTES) {
            return NONE;
        }
        tape.put(a);
        tape.put(b);
        tape.put(c);
        tape.put(d);
        tape.put(e);
        return tape.size;
    }

    public int end(int n) {
        if (n < 0 || n > tape.size) {
            return NONE;
        }
        tape.size = n;
        return n;
    }

    public int quay() {
        boolean fine = reader.readInto(unused);
        tape.size = 0;
        if (!fine) {
            return NONE;
        }
        Told fresh = unused;
        unused = told;
        told = fresh;
        now.begin(told);
        past.restart(now);
        fullBoxes = 0;
        pileSize = 0;
        sight.restart(trial, told, now);
        return told.pairs;
    }

    public int fault(int what) {
        if (what == 0) {
            return reader.fault;
        }
        return what == 1 ? reader.faultAt : NONE;
    }

    // ---- what is now ----

    public int ship(int ship, int what) {
        if (!isShip(ship)) {
            return NONE;
        }
        switch (what) {
            case 0:
                return now.sailsOf(told, ship);
            case 1:
                return told.waits[ship];
            case 2:
                return now.hasWaited(ship) ? 1 : 0;
            case 3:
                return isGone(ship) ? 1 : 0;
            case 4:
                return told.pairsOf(ship);
            default:
                return NONE;
        }
    }

    public int pair(int pair, int what) {
        if (!isPair(pair)) {
            return NONE;
        }
        switch (what) {
            case 0:
                return told.shipOf[pair];
            case 1:
                return told.needs[pair];
            case 2:
                return told.loves[pair];
            case 3:
                return now.how[pair];
            case 4:
                return now.placeOf(pair);
            case 5:
                return now.isBrief(pair) ? 1 : 0;
            default:
                return NONE;
        }
    }

    public int queue(int place) {
        return place >= 0 && place < now.size ? now.line[place] : NONE;
    }

    public int rail(int rail, int what) {
        if (rail < 0 || rail >= told.rails) {
            return NONE;
        }
        if (what == 0) {
            return now.railPair[rail];
        }
        return what == 1 ? now.railTime[rail] : NONE;
    }

    public int length(int pair) {
        return inQueue(pair) ? lengthNow(pair) : NONE;
    }

    public int waves() {
        return now.waves;
    }

    public int soonest() {
        int found = NONE;
        for (int s = 0; s < told.ships; s++) {
            boolean sooner = found == NONE || now.sailsOf(told, s) < now.sailsOf(told, found);
            if (sooner && !isGone(s)) {
                found = s;
            }
        }
        return found;
    }

    public int fondest() {
        int found = NONE;
        for (int i = 0; i < now.size; i++) {
            int p = now.line[i];
            if (found == NONE || told.loves[p] > told.loves[found]) {
                found = p;
            }
        }
        return found;
    }

    public int about(int what) {
        if (what >= 8) {
            return aboutKept(what);
        }
        switch (what) {
            case 0:
                return told.pairs;
            case 1:
                return told.ships;
            case 2:
                return now.size;
            case 3:
                return told.rails;
            case 4:
                return bitsOf(SAID);
            case 5:
                return bitsOf(MISSED);
            case 6:
                return now.minute;
            case 7:
                return now.seed;
            default:
                return NONE;
        }
    }

    private int aboutKept(int what) {
        switch (what) {
            case 8:
                return past.undoable;
            case 9:
                return past.redoable;
            case 10:
                return sight.size;
            case 11:
                return sight.time;
            case 12:
                return tape.size;
            case 13:
                return told.formula.units;
            case 14:
                return pileSize;
            case 15:
                return told.custom;
            case 16:
                return told.quarrels;
            default:
                return NONE;
        }
    }

    // ---- acts ----

    public int minute() {
        if (now.isEmpty() || now.minute >= MOST_MINUTES) {
            return NONE;
        }
        for (int r = 0; r < told.rails; r++) {
            if (now.railPair[r] == NONE) {
                fillRail(r);
            }
        }
        int said = workRails();
        now.minute++;
        cutOffRails();
        past.keep(now);
        return said;
    }

    private void fillRail(int rail) {
        for (int i = 0; i < MOST_PAIRS && now.size > 0 && isGone(told.shipOf[now.line[0]]); i++) {
            now.how[now.line[0]] = MISSED;
            now.leave(0);
            now.waves++;
        }
        if (now.size == 0) {
            return;
        }
        int pair = now.line[0];
        int time = lengthNow(pair);
        now.leave(0);
        now.how[pair] = AT_RAIL;
        now.seed = nextSeed(now.seed);
        now.railPair[rail] = pair;
        now.railTime[rail] = time + quarrelOf(now.seed, told.quarrels);
    }

    private int workRails() {
        int said = 0;
        for (int r = 0; r < told.rails; r++) {
            if (now.railPair[r] == NONE) {
                continue;
            }
            now.railTime[r]--;
            if (now.railTime[r] == 0) {
                said |= 1 << now.railPair[r];
                now.freeRail(r, SAID);
            }
        }
        return said;
    }

    private void cutOffRails() {
        for (int r = 0; r < told.rails; r++) {
            if (now.railPair[r] != NONE && isGone(told.shipOf[now.railPair[r]])) {
                now.freeRail(r, MISSED);
                now.waves++;
            }
        }
    }

    public int change(int pair, int other) {
        if (pair == other || !inQueue(pair) || !inQueue(other)) {
            return NONE;
        }
        int place = now.placeOf(pair);
        int otherPlace = now.placeOf(other);
        now.line[place] = other;
        now.line[otherPlace] = pair;
        past.keep(now);
        return countNow();
    }

    public int shorten(int pair) {
        return agreeOnShort(pair, true);
    }

    public int insist(int pair) {
        return agreeOnShort(pair, false);
    }

    private int agreeOnShort(int pair, boolean brief) {
        if (!inQueue(pair) || now.isBrief(pair) == brief) {
            return NONE;
        }
        now.briefs ^= 1 << pair;
        past.keep(now);
        return lengthNow(pair);
    }

    public int giveUp(int pair) {
        if (!inQueue(pair)) {
            return NONE;
        }
        now.leave(now.placeOf(pair));
        now.how[pair] = GIVEN_UP;
        past.keep(now);
        return now.size;
    }

    public int join(int pair) {
        if (!isPair(pair) || isGone(told.shipOf[pair]) || now.size >= MOST_PAIRS) {
            return NONE;
        }
        if (now.how[pair] != GIVEN_UP && now.how[pair] != MISSED) {
            return NONE;
        }
        now.how[pair] = QUEUING;
        now.line[now.size] = pair;
        now.size++;
        past.keep(now);
        return now.size - 1;
    }

    public int await(int ship) {
        if (!isShip(ship) || now.hasWaited(ship) || isGone(ship)) {
            return NONE;
        }
        now.waited |= 1 << ship;
        past.keep(now);
        return now.sailsOf(told, ship);
    }

    public boolean undo() {
        return past.takeBack(now);
    }

    public boolean redo() {
        return past.takeAgain(now);
    }

    public int image(int box) {
        if (box < 0 || box >= BOXES) {
            return NONE;
        }
        now.saveTo(boxes, box * State.ROW);
        fullBoxes |= 1 << box;
        return now.minute;
    }

    public int back(int box) {
        if (box < 0 || box >= BOXES || !holds(fullBoxes, box)) {
            return NONE;
        }
        now.loadFrom(boxes, box * State.ROW);
        past.restart(now);
        return now.minute;
    }

    // ---- what will be ----

    public int will(int pair, int n, int what) {
        if (!isPair(pair) || n < 0 || n > MOST_FORESEEN || what < 0 || what > 1) {
            return NONE;
        }
        openTrial();
        if (what == 1) {
            trial.quarrels = told.quarrels;
            trial.seed = now.seed;
        }
        trial.run(0);
        if (now.how[pair] != QUEUING && now.how[pair] != AT_RAIL) {
            return now.how[pair];
        }
        return trial.howBehind(pair, n);
    }

    public int says(int pair) {
        if (!isPair(pair)) {
            return NONE;
        }
        openTrial();
        trial.run(0);
        return trial.saysIn(pair);
    }

    public int steps(int pair) {
        if (!inQueue(pair)) {
            return NONE;
        }
        openTrial();
        trial.run(0);
        return trial.stepsIn(pair);
    }

    public int missing() {
        openTrial();
        trial.run(0);
        return bitsOf(MISSED) | trial.missed;
    }

    public int empty() {
        openTrial();
        trial.run(0);
        return trial.emptyIn();
    }

    public int count() {
        return countNow();
    }

    public int love() {
        openTrial();
        trial.run(0);
        return loveOf(trial.said);
    }

    public int litter() {
        openTrial();
        trial.run(0);
        return now.waves + Integer.bitCount(trial.missed);
    }

    public int law(int n) {
        if (n < 1 || n > MOST_LENGTH) {
            return NONE;
        }
        openTrial();
        trial.custom = n;
        return triedCount();
    }

    public int second() {
        openTrial();
        trial.rails = told.rails + 1;
        return triedCount();
    }

    public int last(int ship, int needs) {
        if (!isShip(ship) || needs < 1 || needs > MOST_NEEDS) {
            return NONE;
        }
        openTrial();
        trial.guestShip = ship;
        trial.needs[Trial.GUEST] = needs;
        for (int minutes = MOST_LATER; minutes >= 0; minutes--) {
            if (trial.guestSays(minutes)) {
                return minutes;
            }
        }
        return NONE;
    }

    public int room() {
        openTrial();
        trial.run(0);
        int wanted = trial.said;
        for (int n = MOST_HELD; n > 0; n--) {
            trial.run(n);
            if ((trial.said & wanted) == wanted) {
                return n;
            }
        }
        return 0;
    }

    public int lets(int n) {
        if (n < 0 || n > MOST_HELD) {
            return NONE;
        }
        openTrial();
        trial.run(n);
        return trial.said;
    }

    public int hold(int ship) {
        if (!isShip(ship) || isGone(ship)) {
            return NONE;
        }
        int wanted = told.pairsOf(ship) & (bitsOf(QUEUING) | bitsOf(AT_RAIL));
        openTrial();
        int sails = trial.sails[ship];
        for (int more = 0; more <= MOST_LATER; more++) {
            trial.sails[ship] = sails + more;
            trial.run(0);
            if ((trial.said & wanted) == wanted) {
                return more;
            }
        }
        return NONE;
    }

    // ---- what would be better ----

    public int order() {
        openTrial();
        trial.run(0);
        for (int p = 0; p < MOST_PAIRS; p++) {
            orders.worths[p] = 1;
        }
        int base = Integer.bitCount(trial.said & ~bitsOf(QUEUING));
        return layBestOrder() + base;
    }

    public int dearest() {
        openTrial();
        trial.run(0);
        for (int p = 0; p < MOST_PAIRS; p++) {
            orders.worths[p] = p < told.pairs ? told.loves[p] : 0;
        }
        int base = loveOf(trial.said & ~bitsOf(QUEUING));
        return layBestOrder() + base;
    }

    private int layBestOrder() {
        int gain = orders.findBest(bitsOf(QUEUING));
        System.arraycopy(orders.best, 0, pile, 0, now.size);
        pileSize = now.size;
        return gain;
    }

    public int shortest(int what) {
        if (what < 0 || what > 1) {
            return NONE;
        }
        int choices = bitsOf(QUEUING) & ~now.briefs;
        int wanted = bitsOf(QUEUING) | bitsOf(AT_RAIL);
        openTrial();
        int found = NONE;
        for (int set = 0; set <= choices; set++) {
            if ((set & ~choices) == 0 && isFewer(set, found)) {
                trial.briefs = now.briefs | set;
                trial.run(0);
                found = (trial.said & wanted) == wanted ? set : found;
            }
        }
        return setOrSize(found, what);
    }

    public int spare(int what) {
        if (what < 0 || what > 1) {
            return NONE;
        }
        int choices = bitsOf(QUEUING);
        int atRails = bitsOf(AT_RAIL);
        int found = NONE;
        for (int set = 0; set <= choices; set++) {
            if ((set & ~choices) == 0 && isFewer(set, found)) {
                int wanted = choices & ~set | atRails;
                runWithout(set);
                found = (trial.said & wanted) == wanted ? set : found;
            }
        }
        return setOrSize(found, what);
    }

    private static boolean isFewer(int set, int than) {
        return than == NONE || Integer.bitCount(set) < Integer.bitCount(than);
    }

    private static int setOrSize(int set, int what) {
        return set == NONE || what == 1 ? set : Integer.bitCount(set);
    }

    public int swap(int what) {
        if (what < 0 || what > 2) {
            return NONE;
        }
        int most = countNow();
        int first = NONE;
        int other = NONE;
        for (int a = 0; a < told.pairs; a++) {
            for (int b = a + 1; b < told.pairs; b++) {
                int tried = inQueue(a) && inQueue(b) ? countChanged(a, b) : NONE;
                if (tried > most) {
                    most = tried;
                    first = a;
                    other = b;
                }
            }
        }
        if (first == NONE || what == 0) {
            return first;
        }
        return what == 1 ? other : most;
    }

    private int countChanged(int pair, int other) {
        openTrial();
        trial.exchange(now.placeOf(pair), now.placeOf(other));
        return triedCount();
    }

    public int aside(int what) {
        if (what < 0 || what > 1) {
            return NONE;
        }
        int most = NONE;
        int found = NONE;
        for (int p = 0; p < told.pairs; p++) {
            if (!inQueue(p)) {
                continue;
            }
            openTrial();
            trial.sendToEnd(now.placeOf(p));
            int tried = triedCount();
            if (tried > most) {
                most = tried;
                found = p;
            }
        }
        return what == 0 ? found : most;
    }

    public int wish(int pair) {
        if (!inQueue(pair)) {
            return NONE;
        }
        int place = now.placeOf(pair);
        places.learn(trial, told, now, place);
        return places.wishAmong(place, (1 << now.size) - 1);
    }

    public int trade() {
        for (int i = 0; i < now.size; i++) {
            places.learn(trial, told, now, i);
        }
        int rounds = places.tradeAll(now.size);
        for (int i = 0; i < now.size; i++) {
            pile[i] = now.line[places.holders[i]];
        }
        pileSize = now.size;
        return rounds;
    }

    // ---- who holds up whom ----

    public int delay(int pair, int other) {
        if (pair == other || !isPair(pair) || !inQueue(other)) {
            return NONE;
        }
        runWithout(0);
        int with = trial.saysIn(pair);
        runWithout(1 << other);
        int without = trial.saysIn(pair);
        if (without == NONE) {
            return 0;
        }
        return with == NONE ? LOST_DELAY : with - without;
    }

    public int grudge(int pair) {
        if (!inQueue(pair)) {
            return NONE;
        }
        runWithout(0);
        if (trial.saysIn(pair) != NONE) {
            return NONE;
        }
        int holders = 0;
        for (int i = 0; i < now.size; i++) {
            int other = now.line[i];
            if (other == pair) {
                continue;
            }
            runWithout(1 << other);
            if (trial.saysIn(pair) != NONE) {
                holders |= 1 << other;
            }
        }
        return holders;
    }

    public int blame(int pair, int part) {
        if (!inQueue(pair) || part < 0 || part > 1) {
            return NO_BLAME;
        }
        int queuing = bitsOf(QUEUING);
        for (int set = 0; set <= queuing; set++) {
            if ((set & ~queuing) == 0) {
                runWithout(queuing & ~set);
                counts[set] = Integer.bitCount(trial.said);
            }
        }
        int sum = 0;
        int others = queuing & ~(1 << pair);
        for (int set = 0; set <= others; set++) {
            if ((set & ~others) == 0) {
                int ahead = Integer.bitCount(set);
                int orderings = ORDERS_OF[ahead] * ORDERS_OF[now.size - 1 - ahead];
                sum += orderings * (counts[set | 1 << pair] - counts[set]);
            }
        }
        return partOf(sum, ORDERS_OF[now.size], part);
    }

    public int odds(int n, int part) {
        if (n < 0 || n > MOST_ODDS || part < 0 || part > 1) {
            return NONE;
        }
        int upper = 1;
        int lower = 1;
        for (int i = 0; i < n; i++) {
            upper *= 100 - told.quarrels;
            lower *= 100;
        }
        return partOf(upper, lower, part);
    }

    private static int partOf(int upper, int lower, int part) {
        int common = commonDivisor(Math.abs(upper), lower);
        if (common == 0) {
            return 0;
        }
        return (part == 0 ? upper : lower) / common;
    }

    private static int commonDivisor(int a, int b) {
        int greater = a;
        int lesser = b;
        // Euclid on ints needs fewer than fifty rounds.
        for (int i = 0; i < 64 && lesser != 0; i++) {
            int rest = greater % lesser;
            greater = lesser;
            lesser = rest;
        }
        return greater;
    }

    public int lies(int i) {
        return i >= 0 && i < pileSize ? pile[i] : NOTHING_LIES;
    }

    // ---- what is seen ----

    public int seen(int minutes, int many, boolean is) {
        if (told.pairs == 0) {
            return NONE;
        }
        return sight.note(minutes, many, is);
    }

    public boolean untell(int seen) {
        return sight.takeOut(seen);
    }

    public int later(int by) {
        if (by < 0 || by > MOST_STEP || sight.time + by > MOST_TIME) {
            return NONE;
        }
        sight.time += by;
        return sight.time;
    }

    public int fits(int k) {
        return Integer.bitCount(sight.fitting(k));
    }

    public int sure(int what, int k) {
        int fitting = sight.fitting(k);
        if (fitting == 0 || what < 0 || what > 1) {
            return NONE;
        }
        int found = NONE;
        for (int needs = 1; needs <= MOST_NEEDS; needs++) {
            boolean wanted = what == 1 || found == NONE;
            if (wanted && holds(fitting, needs - 1)) {
                found = needs;
            }
        }
        return found;
    }

    public int ask(int what, int k) {
        int fitting = sight.fitting(k);
        if (fitting == 0 || what < 0 || what > 1) {
            return NONE;
        }
        int best = 0;
        int fewest = sight.mostAlike(fitting, 0);
        for (int minutes = 1; minutes <= Sight.MOST_MINUTES_SEEN; minutes++) {
            int most = sight.mostAlike(fitting, minutes);
            if (most < fewest) {
                fewest = most;
                best = minutes;
            }
        }
        return what == 0 ? best : fewest;
    }

    // ---- what many of them use ----

    private boolean isShip(int ship) {
        return ship >= 0 && ship < told.ships;
    }

    private boolean isPair(int pair) {
        return pair >= 0 && pair < told.pairs;
    }

    private boolean inQueue(int pair) {
        return isPair(pair) && now.how[pair] == QUEUING;
    }

    private boolean isGone(int ship) {
        return now.minute >= now.sailsOf(told, ship);
    }

    private int bitsOf(int how) {
        return now.bitsOf(how, told.pairs);
    }

    private static boolean holds(int bits, int number) {
        return (bits >> number & 1) != 0;
    }

    private static int nextSeed(int seed) {
        return (seed * 137 + 71) % SEEDS;
    }

    private static int quarrelOf(int seed, int quarrels) {
        return seed % 100 < quarrels ? QUARREL_MINUTES : 0;
    }

    private int lengthNow(int pair) {
        openTrial();
        return trial.lengthOf(pair, now.size - 1 - now.placeOf(pair), now.minute);
    }

    private int loveOf(int pairs) {
        int sum = 0;
        for (int p = 0; p < told.pairs; p++) {
            sum += holds(pairs, p) ? told.loves[p] : 0;
        }
        return sum;
    }

    private void openTrial() {
        trial.open(told, now);
    }

    private int countNow() {
        openTrial();
        return triedCount();
    }

    private int triedCount() {
        trial.run(0);
        return Integer.bitCount(trial.said);
    }

    private void runWithout(int pairs) {
        openTrial();
        trial.leaveOut(pairs);
        trial.run(0);
    }

    /** The bytes that were fed. */
    static final class Tape {
        private final byte[] bytes = new byte[MOST_BYTES];
        int size;

        void put(int number) {
            for (int shift = 24; shift >= 0 && size < MOST_BYTES; shift -= 8) {
                bytes[size] = (byte) (number >> shift);
                size++;
            }
        }

        int byteAt(int place) {
            return place >= 0 && place < size ? bytes[place] & 255 : NONE;
        }
    }

    /** What a text told, as it was told. */
    static final class Told {
        int ships;
        final long[] shipNames = new long[MOST_SHIPS];
        final int[] sails = new int[MOST_SHIPS];
        final int[] waits = new int[MOST_SHIPS];
        int pairs;
        final long[] pairNames = new long[MOST_PAIRS];
        final int[] shipOf = new int[MOST_PAIRS];
        final int[] needs = new int[MOST_PAIRS];
        final int[] loves = new int[MOST_PAIRS];
        int custom;
        int rails;
        int quarrels;
        int draw;
        final Formula formula = new Formula();

        Told() {
            clear();
        }

        void clear() {
            ships = 0;
            pairs = 0;
            custom = USUAL_CUSTOM;
            rails = 1;
            quarrels = 0;
            draw = 0;
            formula.size = 0;
            formula.units = 0;
        }

        int pairsOf(int ship) {
            int bits = 0;
            for (int p = 0; p < pairs; p++) {
                bits |= shipOf[p] == ship ? 1 << p : 0;
            }
            return bits;
        }
    }

    /**
     * What lasts told, as steps on a stack: a number is put there, -1 and below put the values of
     * custom, needs, love, behind, left, minute there, those from OPERATION on work on what is there.
     */
    static final class Formula {
        static final int MOST_UNITS = 30;
        static final int OPERATION = 10000;
        private static final int VALUES = 6;
        // Each unit is one step, joined by one more, with at most seven nots ahead of it.
        private static final int MOST_STEPS = MOST_UNITS * 9;

        private final int[] steps = new int[MOST_STEPS];
        private final int[] stack = new int[MOST_UNITS];
        private final int[] values = new int[VALUES];
        int size;
        int units;

        void add(int step) {
            if (size < MOST_STEPS && step >= -VALUES) {
                steps[size] = step;
                size++;
            }
        }

        int valueFor(int needs, int love, int custom, int behind, int left, int minute) {
            values[0] = custom;
            values[1] = needs;
            values[2] = love;
            values[3] = behind;
            values[4] = left;
            values[5] = minute;
            int top = NONE;
            for (int i = 0; i < size; i++) {
                int step = steps[i];
                if (step < OPERATION) {
                    top = Math.min(top + 1, MOST_UNITS - 1);
                    stack[top] = step >= 0 ? step : values[-1 - step];
                } else if (step == OPERATION + Reader.NOT && top >= 0) {
                    stack[top] = stack[top] == 0 ? 1 : 0;
                } else if (top > 0) {
                    top--;
                    stack[top] = combine(step - OPERATION, stack[top], stack[top + 1]);
                }
            }
            return stack[0];
        }

        private static int combine(int operation, int a, int b) {
            switch (operation) {
                case '+':
                    return a + b;
                case '-':
                    return a - b;
                case '*':
                    return a * b;
                case '/':
                    return b == 0 ? 0 : a / b;
                case '%':
                    return b == 0 ? 0 : a % b;
                case '<':
                    return a < b ? 1 : 0;
                case '>':
                    return a > b ? 1 : 0;
                case '=':
                    return a == b ? 1 : 0;
                case Reader.AND:
                    return a != 0 && b != 0 ? 1 : 0;
                case Reader.OR:
                    return a != 0 || b != 0 ? 1 : 0;
                default:
                    return 0;
            }
        }
    }

    /** Reads the tape from its front; the first fault it meets is the first by its place. */
    static final class Reader {
        private static final int NO_TOKEN = 1;
        private static final int OUT_OF_PLACE = 2;
        private static final int TOLD_TWICE = 3;
        private static final int BAD_NUMBER = 4;
        private static final int NO_SHIP = 5;

        private static final int MOST_LETTERS = 8;
        private static final int MOST_DIGITS = 4;
        private static final int MOST_WITHIN = 7;

        private static final String SIGNS = ";()<>=+-*/%";
        private static final String WORDS =
                "ship pair rails lasts quarrels draw custom needs love behind left minute sails waits or and not ";

        // A sign is its own kind; the words are numbered from WORD on, as they stand in WORDS.
        private static final int WORD = 256;
        private static final int SHIP = 256;
        private static final int PAIR = 257;
        private static final int RAILS = 258;
        private static final int LASTS = 259;
        private static final int QUARRELS = 260;
        private static final int DRAW = 261;
        private static final int CUSTOM = 262;
        private static final int NEEDS = 263;
        private static final int LOVE = 264;
        private static final int MINUTE = 267;
        private static final int SAILS = 268;
        private static final int WAITS = 269;
        static final int OR = 270;
        static final int AND = 271;
        static final int NOT = 272;
        private static final int NAME = 273;
        private static final int NUMBER = 274;
        private static final int END = 275;
        private static final int BAD = 276;

        private final Tape tape;
        private Told into;
        private int place;
        private int start;
        private int kind;
        private int number;
        private long name;
        private int linesTold;
        int fault;
        int faultAt = NONE;

        Reader(Tape tape, Told into) {
            this.tape = tape;
            this.into = into;
        }

        boolean readInto(Told told) {
            into = told;
            into.clear();
            place = 0;
            linesTold = 0;
            fault = 0;
            faultAt = NONE;
            advance();
            for (int i = 0; i < MOST_BYTES && fault == 0 && kind != END; i++) {
                readLine();
            }
            return fault == 0;
        }

        private void refuse(int what) {
            if (fault == 0) {
                fault = what;
                faultAt = start;
            }
            kind = BAD;
        }

        // -- tokens --

        private void advance() {
            for (int i = 0; i < MOST_BYTES && isBlank(tape.byteAt(place)); i++) {
                place++;
            }
            start = place;
            int c = tape.byteAt(place);
            if (c == NONE) {
                kind = END;
            } else if (isLetter(c)) {
                takeWord();
                kind = kind == NAME ? kindOfWord() : kind;
            } else if (isDigit(c)) {
                takeNumber();
            } else if (SIGNS.indexOf((char) c) >= 0) {
                kind = c;
                place++;
            } else {
                refuse(NO_TOKEN);
            }
        }

        private void takeWord() {
            name = 0;
            for (int i = 0; i < MOST_BYTES && isLetter(tape.byteAt(place)); i++) {
                name = name * 32 + (tape.byteAt(place) - 'a' + 1);
                place++;
            }
            if (place - start > MOST_LETTERS) {
                refuse(NO_TOKEN);
            } else {
                kind = NAME;
            }
        }

        private void takeNumber() {
            number = 0;
            for (int i = 0; i < MOST_BYTES && isDigit(tape.byteAt(place)); i++) {
                number = number * 10 + (tape.byteAt(place) - '0');
                place++;
            }
            if (place - start > MOST_DIGITS || isLetter(tape.byteAt(place))) {
                refuse(NO_TOKEN);
            } else {
                kind = NUMBER;
            }
        }

        private int kindOfWord() {
            int word = WORD;
            long letters = 0;
            for (int i = 0; i < WORDS.length(); i++) {
                char c = WORDS.charAt(i);
                if (c != ' ') {
                    letters = letters * 32 + (c - 'a' + 1);
                } else if (letters == name) {
                    return word;
                } else {
                    word++;
                    letters = 0;
                }
            }
            return NAME;
        }

        private static boolean isBlank(int c) {
            return c == 32 || c == 10;
        }

        private static boolean isLetter(int c) {
            return c >= 'a' && c <= 'z';
        }

        private static boolean isDigit(int c) {
            return c >= '0' && c <= '9';
        }

        // -- lines --

        private void readLine() {
            switch (kind) {
                case SHIP:
                    readShip();
                    break;
                case PAIR:
                    readPair();
                    break;
                case CUSTOM:
                case RAILS:
                case LASTS:
                case QUARRELS:
                case DRAW:
                    readOnce(kind);
                    break;
                default:
                    refuse(OUT_OF_PLACE);
            }
            expect(';');
        }

        private void readShip() {
            int ship = into.ships;
            if (ship >= MOST_SHIPS) {
                refuse(OUT_OF_PLACE);
                return;
            }
            advance();
            into.shipNames[ship] = readNewName(into.shipNames, ship);
            expect(SAILS);
            into.sails[ship] = readNumber(0, MOST_SAILS);
            into.waits[ship] = 0;
            if (kind == WAITS) {
                advance();
                into.waits[ship] = readNumber(0, MOST_WAITS);
            }
            into.ships++;
        }

        private void readPair() {
            int pair = into.pairs;
            if (pair >= MOST_PAIRS) {
                refuse(OUT_OF_PLACE);
                return;
            }
            advance();
            into.pairNames[pair] = readNewName(into.pairNames, pair);
            expect(SHIP);
            into.shipOf[pair] = readShipName();
            expect(NEEDS);
            into.needs[pair] = readNumber(1, MOST_NEEDS);
            into.loves[pair] = 1;
            if (kind == LOVE) {
                advance();
                into.loves[pair] = readNumber(0, MOST_LOVE);
            }
            into.pairs++;
        }

        private void readOnce(int sort) {
            int bit = 1 << sort - WORD;
            if ((linesTold & bit) != 0) {
                refuse(OUT_OF_PLACE);
                return;
            }
            linesTold |= bit;
            advance();
            if (sort == CUSTOM) {
                into.custom = readNumber(1, MOST_LENGTH);
            } else if (sort == RAILS) {
                into.rails = readNumber(1, MOST_RAILS);
            } else if (sort == QUARRELS) {
                into.quarrels = readNumber(0, 100);
            } else if (sort == DRAW) {
                into.draw = readNumber(0, SEEDS - 1);
            } else {
                readFormula(0);
            }
        }

        private void expect(int wanted) {
            if (fault != 0) {
                return;
            }
            if (kind == wanted) {
                advance();
            } else {
                refuse(OUT_OF_PLACE);
            }
        }

        private int readNumber(int least, int most) {
            if (kind != NUMBER) {
                refuse(OUT_OF_PLACE);
            } else if (number < least || number > most) {
                refuse(BAD_NUMBER);
            } else {
                int read = number;
                advance();
                return read;
            }
            return least;
        }

        private long readNewName(long[] names, int known) {
            if (kind != NAME) {
                refuse(OUT_OF_PLACE);
                return 0;
            }
            long read = name;
            if (find(names, known, read) != NONE) {
                refuse(TOLD_TWICE);
            } else {
                advance();
            }
            return read;
        }

        private int readShipName() {
            if (kind != NAME) {
                refuse(OUT_OF_PLACE);
                return 0;
            }
            int ship = find(into.shipNames, into.ships, name);
            if (ship == NONE) {
                refuse(NO_SHIP);
                return 0;
            }
            advance();
            return ship;
        }

        private static int find(long[] names, int known, long wanted) {
            for (int i = 0; i < known && i < names.length; i++) {
                if (names[i] == wanted) {
                    return i;
                }
            }
            return NONE;
        }

        // -- the formula; within tells how many parentheses and nots stand around --

        private void readFormula(int within) {
            readBoth(within);
            for (int i = 0; i < MOST_BYTES && kind == OR; i++) {
                advance();
                readBoth(within);
                into.formula.add(Formula.OPERATION + OR);
            }
        }

        private void readBoth(int within) {
            readOne(within);
            for (int i = 0; i < MOST_BYTES && kind == AND; i++) {
                advance();
                readOne(within);
                into.formula.add(Formula.OPERATION + AND);
            }
        }

        private void readOne(int within) {
            if (kind == NOT) {
                if (within >= MOST_WITHIN) {
                    refuse(OUT_OF_PLACE);
                    return;
                }
                advance();
                readOne(within + 1);
                into.formula.add(Formula.OPERATION + NOT);
                return;
            }
            readSum(within);
            if (kind == '<' || kind == '>' || kind == '=') {
                int relation = kind;
                advance();
                readSum(within);
                into.formula.add(Formula.OPERATION + relation);
            }
        }

        private void readSum(int within) {
            readTerm(within);
            for (int i = 0; i < MOST_BYTES && (kind == '+' || kind == '-'); i++) {
                int sign = kind;
                advance();
                readTerm(within);
                into.formula.add(Formula.OPERATION + sign);
            }
        }

        private void readTerm(int within) {
            readUnit(within);
            for (int i = 0; i < MOST_BYTES && (kind == '*' || kind == '/' || kind == '%'); i++) {
                int sign = kind;
                advance();
                readUnit(within);
                into.formula.add(Formula.OPERATION + sign);
            }
        }

        private void readUnit(int within) {
            boolean opens = kind == '(';
            boolean known = opens || kind == NUMBER || isValueWord(kind);
            if (!known || into.formula.units >= Formula.MOST_UNITS || opens && within >= MOST_WITHIN) {
                refuse(OUT_OF_PLACE);
                return;
            }
            into.formula.units++;
            if (opens) {
                advance();
                readFormula(within + 1);
                // Not by expect(), which would make the calls that stand open nine deep.
                if (kind != ')') {
                    refuse(OUT_OF_PLACE);
                    return;
                }
            } else {
                into.formula.add(kind == NUMBER ? number : -1 - (kind - CUSTOM));
            }
            advance();
        }

        private static boolean isValueWord(int kind) {
            return kind >= CUSTOM && kind <= MINUTE;
        }
    }

    /** The quay as it is at a minute. */
    static final class State {
        /** How many ints a kept state takes. */
        static final int ROW = 2 * MOST_PAIRS + 2 * MOST_RAILS + 6;

        final int[] line = new int[MOST_PAIRS];
        int size;
        final int[] how = new int[MOST_PAIRS];
        int briefs;
        final int[] railPair = new int[MOST_RAILS];
        final int[] railTime = new int[MOST_RAILS];
        int waited;
        int waves;
        int minute;
        int seed;

        void begin(Told told) {
            size = told.pairs;
            for (int p = 0; p < MOST_PAIRS; p++) {
                line[p] = p;
                how[p] = QUEUING;
            }
            for (int r = 0; r < MOST_RAILS; r++) {
                railPair[r] = NONE;
                railTime[r] = 0;
            }
            briefs = 0;
            waited = 0;
            waves = 0;
            minute = 0;
            seed = told.draw;
        }

        void saveTo(int[] rows, int from) {
            if (from < 0 || from + ROW > rows.length) {
                return;
            }
            int at = from;
            System.arraycopy(line, 0, rows, at, MOST_PAIRS);
            at += MOST_PAIRS;
            System.arraycopy(how, 0, rows, at, MOST_PAIRS);
            at += MOST_PAIRS;
            System.arraycopy(railPair, 0, rows, at, MOST_RAILS);
            at += MOST_RAILS;
            System.arraycopy(railTime, 0, rows, at, MOST_RAILS);
            at += MOST_RAILS;
            rows[at] = size;
            rows[at + 1] = briefs;
            rows[at + 2] = waited;
            rows[at + 3] = waves;
            rows[at + 4] = minute;
            rows[at + 5] = seed;
        }

        void loadFrom(int[] rows, int from) {
            if (from < 0 || from + ROW > rows.length) {
                return;
            }
            int at = from;
            System.arraycopy(rows, at, line, 0, MOST_PAIRS);
            at += MOST_PAIRS;
            System.arraycopy(rows, at, how, 0, MOST_PAIRS);
            at += MOST_PAIRS;
            System.arraycopy(rows, at, railPair, 0, MOST_RAILS);
            at += MOST_RAILS;
            System.arraycopy(rows, at, railTime, 0, MOST_RAILS);
            at += MOST_RAILS;
            size = rows[at];
            briefs = rows[at + 1];
            waited = rows[at + 2];
            waves = rows[at + 3];
            minute = rows[at + 4];
            seed = rows[at + 5];
        }

        boolean isEmpty() {
            boolean free = true;
            for (int r = 0; r < MOST_RAILS; r++) {
                free = free && railPair[r] == NONE;
            }
            return free && size == 0;
        }

        boolean isBrief(int pair) {
            return holds(briefs, pair);
        }

        boolean hasWaited(int ship) {
            return holds(waited, ship);
        }

        int sailsOf(Told told, int ship) {
            return told.sails[ship] + (hasWaited(ship) ? told.waits[ship] : 0);
        }

        int placeOf(int pair) {
            for (int i = 0; i < size; i++) {
                if (line[i] == pair) {
                    return i;
                }
            }
            return NONE;
        }

        int bitsOf(int wanted, int pairs) {
            int bits = 0;
            for (int p = 0; p < pairs; p++) {
                bits |= how[p] == wanted ? 1 << p : 0;
            }
            return bits;
        }

        void leave(int place) {
            if (place < 0 || place >= size) {
                return;
            }
            size--;
            for (int i = place; i < size; i++) {
                line[i] = line[i + 1];
            }
        }

        void freeRail(int rail, int becomes) {
            how[railPair[rail]] = becomes;
            railPair[rail] = NONE;
            railTime[rail] = 0;
        }
    }

    /** The states that undo and redo go through, in a ring so that the oldest can go. */
    static final class Past {
        private static final int STATES = MOST_ACTS + 1;

        private final int[] rows = new int[STATES * State.ROW];
        private int oldest;
        int undoable;
        int redoable;

        void restart(State now) {
            oldest = 0;
            undoable = 0;
            redoable = 0;
            now.saveTo(rows, rowNow());
        }

        void keep(State now) {
            redoable = 0;
            if (undoable < MOST_ACTS) {
                undoable++;
            } else {
                oldest = (oldest + 1) % STATES;
            }
            now.saveTo(rows, rowNow());
        }

        boolean takeBack(State now) {
            if (undoable == 0) {
                return false;
            }
            undoable--;
            redoable++;
            now.loadFrom(rows, rowNow());
            return true;
        }

        boolean takeAgain(State now) {
            if (redoable == 0) {
                return false;
            }
            undoable++;
            redoable--;
            now.loadFrom(rows, rowNow());
            return true;
        }

        private int rowNow() {
            return (oldest + undoable) % STATES * State.ROW;
        }
    }

    /**
     * What would become of the quay, were no more done. It goes from pair to pair, not from minute
     * to minute: those in the queue leave it in its order, each at the minute when a rail is free next.
     */
    static final class Trial {
        private static final int MOST_TRIED_RAILS = MOST_RAILS + 1;
        /** A pair more than those told, which last() thinks of. */
        static final int GUEST = MOST_PAIRS;

        private Told told;
        final int[] line = new int[MOST_PAIRS];
        int size;
        final int[] needs = new int[MOST_PAIRS + 1];
        int guestShip;
        final int[] sails = new int[MOST_SHIPS];
        int briefs;
        int custom;
        int quarrels;
        int seed;
        int rails;
        private final int[] railPair = new int[MOST_TRIED_RAILS];
        private final int[] railTime = new int[MOST_TRIED_RAILS];
        final int[] freeAt = new int[MOST_TRIED_RAILS];
        private int start;
        private int saidBefore;
        int said;
        int missed;
        /** The minute in which a pair leaves the queue. */
        final int[] outAt = new int[MOST_PAIRS + 1];
        /** The minute from which it is at no rail; that of leaving the queue if it never steps up. */
        final int[] endAt = new int[MOST_PAIRS + 1];

        Trial(Told told) {
            this.told = told;
        }

        void open(Told told, State now) {
            this.told = told;
            System.arraycopy(now.line, 0, line, 0, MOST_PAIRS);
            size = now.size;
            System.arraycopy(told.needs, 0, needs, 0, MOST_PAIRS);
            for (int s = 0; s < told.ships; s++) {
                sails[s] = now.sailsOf(told, s);
            }
            briefs = now.briefs;
            custom = told.custom;
            quarrels = 0;
            rails = told.rails;
            for (int r = 0; r < MOST_TRIED_RAILS; r++) {
                boolean there = r < MOST_RAILS;
                railPair[r] = there ? now.railPair[r] : NONE;
                railTime[r] = there ? now.railTime[r] : 0;
            }
            start = now.minute;
            saidBefore = now.bitsOf(SAID, told.pairs);
        }

        void exchange(int place, int other) {
            if (place < 0 || place >= size || other < 0 || other >= size) {
                return;
            }
            int pair = line[place];
            line[place] = line[other];
            line[other] = pair;
        }

        void sendToEnd(int place) {
            for (int i = Math.max(0, place); i + 1 < size; i++) {
                exchange(i, i + 1);
            }
        }

        void leaveOut(int pairs) {
            int kept = 0;
            for (int i = 0; i < size; i++) {
                if (!holds(pairs, line[i])) {
                    line[kept] = line[i];
                    kept++;
                }
            }
            size = kept;
        }

        void run(int held) {
            openRails(held);
            for (int i = 0; i < size; i++) {
                take(line[i], nextRail(), size - 1 - i);
            }
        }

        boolean guestSays(int minutes) {
            int joinAt = start + minutes;
            if (joinAt >= sails[guestShip]) {
                return false;
            }
            openRails(0);
            for (int i = 0; i < size; i++) {
                int rail = nextRail();
                int guests = freeAt[rail] >= joinAt ? 1 : 0;
                take(line[i], rail, size - 1 - i + guests);
            }
            int rail = nextRail();
            freeAt[rail] = Math.max(freeAt[rail], joinAt);
            return take(GUEST, rail, 0);
        }

        void openRails(int held) {
            said = saidBefore;
            missed = 0;
            for (int r = 0; r < rails; r++) {
                int pair = railPair[r];
                freeAt[r] = start;
                if (pair != NONE) {
                    outAt[pair] = start - 1;
                    settle(pair, start + railTime[r]);
                    freeAt[r] = endAt[pair];
                }
                freeAt[r] += held;
            }
        }

        int nextRail() {
            int next = 0;
            for (int r = 1; r < rails; r++) {
                next = freeAt[r] < freeAt[next] ? r : next;
            }
            return next;
        }

        /** The pair leaves the queue as the rail is free: true if it will have said it. */
        boolean take(int pair, int rail, int behind) {
            int at = freeAt[rail];
            outAt[pair] = at;
            if (at >= sailsFor(pair)) {
                endAt[pair] = at;
                missed |= 1 << pair;
                return false;
            }
            int time = lengthOf(pair, behind, at);
            if (quarrels > 0) {
                seed = nextSeed(seed);
                time += quarrelOf(seed, quarrels);
            }
            boolean says = settle(pair, at + time);
            freeAt[rail] = endAt[pair];
            return says;
        }

        private boolean settle(int pair, int till) {
            int gone = sailsFor(pair);
            endAt[pair] = Math.min(till, gone);
            if (till <= gone) {
                said |= 1 << pair;
            } else {
                missed |= 1 << pair;
            }
            return till <= gone;
        }

        int sailsFor(int pair) {
            return sails[pair == GUEST ? guestShip : told.shipOf[pair]];
        }

        int lengthOf(int pair, int behind, int minute) {
            int whole = Math.min(needs[pair], custom);
            if (told.formula.size > 0) {
                int love = pair == GUEST ? 1 : told.loves[pair];
                int left = Math.max(0, sailsFor(pair) - minute);
                whole = told.formula.valueFor(needs[pair], love, custom, behind, left, minute);
            }
            whole = Math.max(1, Math.min(MOST_LENGTH, whole));
            return holds(briefs, pair) ? Math.max(1, whole / 2) : whole;
        }

        int saysIn(int pair) {
            if (!holds(said, pair)) {
                return NONE;
            }
            return holds(saidBefore, pair) ? 0 : endAt[pair] - start;
        }

        int stepsIn(int pair) {
            return endAt[pair] > outAt[pair] ? outAt[pair] - start : NONE;
        }

        int howBehind(int pair, int minutes) {
            if (outAt[pair] - start >= minutes) {
                return QUEUING;
            }
            if (endAt[pair] - start > minutes) {
                return AT_RAIL;
            }
            return holds(said, pair) ? SAID : MISSED;
        }

        int emptyIn() {
            int till = start;
            for (int r = 0; r < rails; r++) {
                till = railPair[r] == NONE ? till : Math.max(till, endAt[railPair[r]]);
            }
            for (int i = 0; i < size; i++) {
                till = Math.max(till, Math.max(outAt[line[i]] + 1, endAt[line[i]]));
            }
            return till - start;
        }
    }

    /** Looks for the first order, by numbers, that is worth most; what can't be worth more is passed over. */
    static final class Orders {
        private static final int SLOT_BITS = 10;
        private static final int SLOTS = 1 << SLOT_BITS;
        // The golden ratio's bits spread neighbouring keys over the slots.
        private static final int SPREAD = 0x9E3779B1;

        final int[] worths = new int[MOST_PAIRS];
        final int[] best = new int[MOST_PAIRS];
        private final int[] path = new int[MOST_PAIRS];
        private final int[] knownKeys = new int[SLOTS];
        private final int[] knownWorths = new int[SLOTS];
        private final Trial trial;
        private int size;
        private int most;

        Orders(Trial trial) {
            this.trial = trial;
        }

        /** The trial must have been opened on the quay as it is. */
        int findBest(int pairs) {
            size = Integer.bitCount(pairs);
            most = NONE;
            for (int i = 0; i < SLOTS; i++) {
                knownKeys[i] = NONE;
            }
            trial.openRails(0);
            goOn(0, pairs, 0);
            return most;
        }

        private void goOn(int depth, int left, int worth) {
            if (depth >= size || depth >= MOST_PAIRS) {
                keepIfMore(worth);
                return;
            }
            int rail = trial.nextRail();
            int free = trial.freeAt[rail];
            for (int p = 0; p < MOST_PAIRS; p++) {
                if (!holds(left, p)) {
                    continue;
                }
                path[depth] = p;
                int others = left & ~(1 << p);
                int gained = worth + (trial.take(p, rail, size - 1 - depth) ? worths[p] : 0);
                if (gained + hopeOf(others) > most && !isKnown(others, gained)) {
                    goOn(depth + 1, others, gained);
                }
                trial.freeAt[rail] = free;
            }
        }

        private void keepIfMore(int worth) {
            if (worth > most) {
                most = worth;
                System.arraycopy(path, 0, best, 0, size);
            }
        }

        private int hopeOf(int pairs) {
            int minute = trial.freeAt[trial.nextRail()];
            int sum = 0;
            for (int p = 0; p < MOST_PAIRS; p++) {
                if (holds(pairs, p) && minute < trial.sailsFor(p)) {
                    sum += worths[p];
                }
            }
            return sum;
        }

        /**
         * Whether these were left already, the rails free at the same minutes, with no less gained:
         * then an order further ahead was worth no less. A slot that another takes only costs time.
         */
        private boolean isKnown(int left, int gained) {
            int sooner = trial.freeAt[0];
            int later = sooner;
            for (int r = 1; r < trial.rails; r++) {
                sooner = Math.min(sooner, trial.freeAt[r]);
                later = Math.max(later, trial.freeAt[r]);
            }
            int key = (later << 10 | sooner) << MOST_PAIRS | left;
            int slot = key * SPREAD >>> 32 - SLOT_BITS;
            if (knownKeys[slot] == key && knownWorths[slot] >= gained) {
                return true;
            }
            knownKeys[slot] = key;
            knownWorths[slot] = gained;
            return false;
        }
    }

    /** Who would rather have which place; who holds a place now is told by that place. */
    static final class Places {
        private final int[] times = new int[MOST_PAIRS * MOST_PAIRS];
        private final int[] points = new int[MOST_PAIRS];
        final int[] holders = new int[MOST_PAIRS];
        private int size;

        void learn(Trial trial, Told told, State now, int holder) {
            size = now.size;
            for (int place = 0; place < size; place++) {
                trial.open(told, now);
                trial.exchange(holder, place);
                trial.run(0);
                times[holder * MOST_PAIRS + place] = trial.saysIn(now.line[holder]);
            }
        }

        int wishAmong(int holder, int left) {
            int wished = NONE;
            int fewest = 0;
            for (int place = 0; place < size; place++) {
                int time = times[holder * MOST_PAIRS + place];
                if (holds(left, place) && time != NONE && (wished == NONE || time <= fewest)) {
                    wished = place;
                    fewest = time;
                }
            }
            return wished == NONE ? holder : wished;
        }

        int tradeAll(int many) {
            int rounds = 0;
            int left = (1 << many) - 1;
            // Each time one round at least goes out, so there are no more times than places.
            for (int time = 0; time < many && left != 0; time++) {
                for (int i = 0; i < many; i++) {
                    points[i] = holds(left, i) ? wishAmong(i, left) : i;
                }
                int out = 0;
                for (int i = 0; i < many; i++) {
                    int members = holds(left, i) ? roundOf(i, many) : 0;
                    if (members == 0) {
                        continue;
                    }
                    holders[points[i]] = i;
                    out |= 1 << i;
                    boolean leads = (members & (1 << i) - 1) == 0;
                    rounds += leads && members != 1 << i ? 1 : 0;
                }
                left &= ~out;
            }
            return rounds;
        }

        /** The round that one is in, as bits; 0 if it only points towards one. */
        private int roundOf(int first, int many) {
            int members = 1 << first;
            int at = points[first];
            for (int i = 0; i < many && at != first; i++) {
                members |= 1 << at;
                at = points[at];
            }
            return at == first ? members : 0;
        }
    }

    /** What was seen of the quay as it was told, but for how much the last pair needs. */
    static final class Sight {
        static final int MOST_MINUTES_SEEN = 60;
        private static final int MOST_SEEN = 30;
        private static final int NOT_YET = -1;

        int time;
        int size;
        private int pairs;
        private final int[] minutes = new int[MOST_SEEN];
        private final int[] manies = new int[MOST_SEEN];
        private final boolean[] are = new boolean[MOST_SEEN];
        private final int[] toldAt = new int[MOST_SEEN];
        private final int[] untoldAt = new int[MOST_SEEN];
        private final int[] outAt = new int[MOST_NEEDS * MOST_PAIRS];
        private final int[] groups = new int[MOST_PAIRS + 1];

        void restart(Trial trial, Told told, State first) {
            size = 0;
            pairs = told.pairs;
            for (int i = 0; i < MOST_NEEDS && pairs > 0; i++) {
                trial.open(told, first);
                trial.needs[pairs - 1] = i + 1;
                trial.run(0);
                System.arraycopy(trial.outAt, 0, outAt, i * MOST_PAIRS, MOST_PAIRS);
            }
        }

        int note(int behind, int many, boolean is) {
            boolean can = behind >= 0 && behind <= MOST_MINUTES_SEEN && many >= 0 && many <= MOST_PAIRS;
            if (!can || size >= MOST_SEEN) {
                return NONE;
            }
            minutes[size] = behind;
            manies[size] = many;
            are[size] = is;
            toldAt[size] = time;
            untoldAt[size] = NOT_YET;
            size++;
            return size - 1;
        }

        boolean takeOut(int number) {
            if (number < 0 || number >= size || untoldAt[number] != NOT_YET) {
                return false;
            }
            untoldAt[number] = time;
            return true;
        }

        /** The needs that fit as known at k, as bits from 0 for 1 on. */
        int fitting(int k) {
            int bits = 0;
            for (int i = 0; i < MOST_NEEDS && pairs > 0; i++) {
                bits |= isFitting(i, k) ? 1 << i : 0;
            }
            return bits;
        }

        private boolean isFitting(int need, int k) {
            for (int i = 0; i < size; i++) {
                boolean untold = untoldAt[i] != NOT_YET && untoldAt[i] <= k;
                boolean counts = toldAt[i] <= k && !untold;
                if (counts && outBehind(need, minutes[i]) >= manies[i] != are[i]) {
                    return false;
                }
            }
            return true;
        }

        private int outBehind(int need, int behind) {
            int out = 0;
            for (int p = 0; p < pairs; p++) {
                out += outAt[need * MOST_PAIRS + p] < behind ? 1 : 0;
            }
            return out;
        }

        /** How many of those fitting are left at the most once it is known how many queue then. */
        int mostAlike(int fitting, int behind) {
            for (int i = 0; i <= MOST_PAIRS; i++) {
                groups[i] = 0;
            }
            int most = 0;
            for (int i = 0; i < MOST_NEEDS; i++) {
                if (holds(fitting, i)) {
                    int out = outBehind(i, behind);
                    groups[out]++;
                    most = Math.max(most, groups[out]);
                }
            }
            return most;
        }
    }
}
