/** The god of the last tram: what a few held breaths do to those who run for it. */
public final class TramGod {
    public static final int UNKNOWN = -1, OUTSIDE = -2, STATE = -3, FULL = -4, NO = -5, NONE = -6;
    public static final long GONE = -1000000000000000000L;

    private static final int MOST_STOPS = 6;
    private static final int MOST_PEOPLE = 8;
    private static final int MOST_SIGHTS = 8;
    private static final int MOST_SIGNS = 20;
    private static final int MOST_NIGHTS = 7;
    private static final int MOST_FUND = 40;
    private static final int MOST_RIVAL_BREATHS = 5;
    private static final int ALL_NIGHTS = 127;
    private static final int IMAGES = 2;

    /** Delays 0 to 10: what one breath more is worth asks for ten breaths, where nine are the law. */
    private static final int DELAYS = 11;
    /** More than any delay, also behind what a runner is late by. */
    private static final int NEVER = 1000;
    /** Far below all the good of all people in all nights, so that one of it outweighs them. */
    private static final int FORBIDDEN = -1000000;

    /** Rows 0 to 11 of Pascal's triangle, seven columns each. */
    private static final int CHOOSE_COLUMNS = 7;
    private static final int CHOOSE_ROWS = 12;
    private static final int[] CHOOSE = {
        1, 0, 0, 0, 0, 0, 0,
        1, 1, 0, 0, 0, 0, 0,
        1, 2, 1, 0, 0, 0, 0,
        1, 3, 3, 1, 0, 0, 0,
        1, 4, 6, 4, 1, 0, 0,
        1, 5, 10, 10, 5, 1, 0,
        1, 6, 15, 20, 15, 6, 1,
        1, 7, 21, 35, 35, 21, 7,
        1, 8, 28, 56, 70, 56, 28,
        1, 9, 36, 84, 126, 126, 84,
        1, 10, 45, 120, 210, 252, 210,
        1, 11, 55, 165, 330, 462, 462
    };
    /** Holds of at most five breaths at six stops. */
    private static final int MOST_RANKS = 462;

    private final Pad pad;
    private final World world;
    /** Null: none was kept. */
    private final World[] images;
    private final Slack slack;
    private final Planner planner;
    private final Purse purse;
    private final Duel duel;
    private final int[] hold;
    private final int[] delays;

    public TramGod() {
        pad = new Pad();
        world = new World();
        images = new World[IMAGES];
        slack = new Slack(world);
        planner = new Planner(world, slack);
        purse = new Purse(world, planner);
        duel = new Duel(world, slack);
        hold = new int[MOST_STOPS];
        delays = new int[MOST_STOPS];
    }

    // ---- 1 lines, people

    public int say(int sign) {
        if (!within(sign, 33, 126)) {
            return OUTSIDE;
        }
        return pad.put(sign) ? pad.count : FULL;
    }

    public int wipe() {
        int were = pad.count;
        pad.count = 0;
        return were;
    }

    public int fault(int how) {
        if (how == 0) {
            return pad.faultOf(1, MOST_STOPS);
        }
        return how == 1 ? pad.faultOf(world.stops, world.stops) : OUTSIDE;
    }

    public int line() {
        if (pad.faultOf(1, MOST_STOPS) != NONE) {
            return NO;
        }
        world.startLine(pad);
        pad.count = 0;
        return world.stops;
    }

    public int close(int stop, boolean is) {
        if (!world.isStop(stop)) {
            return UNKNOWN;
        }
        int bit = 1 << stop;
        world.closed = is ? world.closed | bit : world.closed & ~bit;
        return world.closed;
    }

    public int person(int person, int stop, int comes, int ride, int walk, int other) {
        if (!within(person, 0, MOST_PEOPLE - 1) || !world.isStop(stop)) {
            return UNKNOWN;
        }
        if (!within(comes, 0, 99) || !isGood(ride) || !isGood(walk) || !isGood(other)) {
            return OUTSIDE;
        }
        world.people |= 1 << person;
        world.at[person] = stop;
        world.comes[person] = comes;
        world.ride[person] = ride;
        world.walk[person] = walk;
        world.other[person] = other;
        world.nights[person] = ALL_NIGHTS;
        return Integer.bitCount(world.people);
    }

    public int leave(int person) {
        if (!world.isPerson(person)) {
            return UNKNOWN;
        }
        world.people &= ~(1 << person);
        return Integer.bitCount(world.people);
    }

    public int nights(int person, int set) {
        if (!world.isPerson(person)) {
            return UNKNOWN;
        }
        if (!within(set, 0, ALL_NIGHTS)) {
            return OUTSIDE;
        }
        world.nights[person] = set;
        return 1;
    }

    public int set(int which, int v) {
        if (!within(which, 0, 1) || !within(v, 0, 9)) {
            return OUTSIDE;
        }
        int was = which == 0 ? world.breaths : world.each;
        if (which == 0) {
            world.breaths = v;
        } else {
            world.each = v;
        }
        return was;
    }

    // ---- 2 holds

    public int judge(int what) {
        if (!within(what, 0, 1)) {
            return OUTSIDE;
        }
        if (!readHold()) {
            return NO;
        }
        int over = stopOverEach();
        if (over != NONE) {
            return what == 0 ? over : 1;
        }
        int passed = stopOverBreaths();
        return passed == NONE || what == 0 ? passed : 2;
    }

    public int riders() {
        return readGoodHold() ? slack.ridersBy(delays) : NO;
    }

    public int good(int what) {
        if (!within(what, 0, 1)) {
            return OUTSIDE;
        }
        if (!readGoodHold()) {
            return NO;
        }
        int who = slack.ridersBy(delays);
        return 1000 + (what == 0 ? world.goodOf(who) : world.othersOf(who));
    }

    public int leaves(int stop) {
        if (!world.isStop(stop)) {
            return UNKNOWN;
        }
        return readGoodHold() ? world.departs(stop, world.closed) + delays[stop] : NO;
    }

    public int vain() {
        if (!readGoodHold()) {
            return NO;
        }
        int who = slack.ridersBy(delays);
        for (int s = 0; s < world.stops; s++) {
            if (hold[s] > 0 && ridersWithout(s) == who) {
                return s;
            }
        }
        return NONE;
    }

    // ---- 3 what is best

    public int best(int stop) {
        if (!isStopOrAll(stop)) {
            return UNKNOWN;
        }
        int most = mostGood(world.breaths);
        return stop == -1 ? most + 1000 : planner.breathsAt(stop);
    }

    public int worth() {
        int now = mostGood(world.breaths);
        return mostGood(world.breaths + 1) - now;
    }

    public int meant(int ride, int walk, int stop) {
        if (!isStopOrAll(stop)) {
            return UNKNOWN;
        }
        if (!areSets(ride, walk)) {
            return OUTSIDE;
        }
        int fewest = fewestBreaths(ride, walk);
        return stop == -1 || fewest == NONE ? fewest : planner.breathsAt(stop);
    }

    public int bars(int ride, int walk) {
        if (!areSets(ride, walk)) {
            return OUTSIDE;
        }
        if (fewestBreaths(ride, walk) != NONE) {
            return NONE;
        }
        for (int p = 0; p < MOST_PEOPLE; p++) {
            int bit = 1 << p;
            if (((ride | walk) & bit) != 0 && fewestBreaths(ride & ~bit, walk & ~bit) != NONE) {
                return p;
            }
        }
        return NONE;
    }

    public int fund(int breaths, int m, int night) {
        if (!within(breaths, 0, MOST_FUND) || !within(m, 1, MOST_NIGHTS) || !within(night, -1, m - 1)) {
            return OUTSIDE;
        }
        slack.measure(world.closed);
        int most = purse.share(breaths, m);
        return night == -1 ? most + 10000 : purse.spentIn(night, breaths);
    }

    public int rival(int what) {
        if (!within(what, 0, 2)) {
            return OUTSIDE;
        }
        if (world.breaths > MOST_RIVAL_BREATHS) {
            return FULL;
        }
        slack.measure(world.closed);
        duel.play();
        if (what == 2) {
            return duel.first;
        }
        return 1000 + (what == 0 ? duel.godHas() : duel.rivalHas());
    }

    // ---- 4 closing, sights, runners

    public int closing(int k, int what) {
        if (!within(k, 0, MOST_STOPS) || !within(what, 0, 1)) {
            return OUTSIDE;
        }
        clearDelays();
        int most = 0;
        int found = NONE;
        for (int more = 0; more < 1 << world.stops; more++) {
            if (Integer.bitCount(more) == k && (more & world.closed) == 0) {
                slack.measure(world.closed | more);
                int left = world.goodOf(slack.ridersBy(delays));
                if (found == NONE || left > most) {
                    most = left;
                    found = more;
                }
            }
        }
        return found == NONE || what == 1 ? found : most + 1000;
    }

    public int seen(int person, int rode) {
        if (!world.isPerson(person)) {
            return UNKNOWN;
        }
        if (!within(rode, 0, 1)) {
            return OUTSIDE;
        }
        if (world.sights >= MOST_SIGHTS) {
            return FULL;
        }
        world.addSight(person, rode == 1);
        return world.sights;
    }

    public int forget() {
        int were = world.sights;
        world.clearSights();
        return were;
    }

    public int held(int stop, int what) {
        if (!isStopOrAll(stop)) {
            return UNKNOWN;
        }
        if (!within(what, 0, 1)) {
            return OUTSIDE;
        }
        if (stop == -1 && what == 1) {
            return fewestBreaths(world.sawRide, world.sawWalk);
        }
        slack.measure(world.closed);
        planner.wantSets(world.sawRide, world.sawWalk);
        if (stop == -1) {
            return planner.countHolds(world.breaths);
        }
        planner.weighAll(0);
        planner.weight[stop] = what == 0 ? -1 : 1;
        return planner.solve(world.breaths) <= FORBIDDEN / 2 ? NONE : planner.breathsAt(stop);
    }

    public long runs(int person, int later, int t, int part) {
        if (!world.isPerson(person)) {
            return GONE + UNKNOWN;
        }
        if (!areRunners(later, t, part)) {
            return GONE + OUTSIDE;
        }
        if (!readGoodHold()) {
            return GONE + NO;
        }
        return partOf(slack.tenths(person, delays[world.at[person]], later, t), 10, part);
    }

    public long mean(int later, int t, int part) {
        if (!areRunners(later, t, part)) {
            return GONE + OUTSIDE;
        }
        if (!readGoodHold()) {
            return GONE + NO;
        }
        int sum = 0;
        for (int p = 0; p < MOST_PEOPLE; p++) {
            if (world.isPerson(p)) {
                int rides = slack.tenths(p, delays[world.at[p]], later, t);
                sum += rides * world.ride[p] + (10 - rides) * world.walk[p];
            }
        }
        return partOf(sum, 10, part);
    }

    public int waits(int person, int later, int t, int a, int b) {
        if (!world.isPerson(person)) {
            return UNKNOWN;
        }
        if (!areRunners(later, t, 0) || !within(b, 1, 100) || !within(a, 0, b)) {
            return OUTSIDE;
        }
        int stop = world.at[person];
        if (world.isClosed(stop)) {
            return STATE;
        }
        slack.measure(world.closed);
        int most = world.mayHold(stop, world.breaths);
        for (int held = 0; held <= most; held++) {
            if (slack.tenths(person, held, later, t) * b >= 10 * a) {
                return held;
            }
        }
        return NONE;
    }

    public int year(int seed, int m, int what) {
        if (!within(seed, 0, 9999) || !within(m, 1, 99) || !within(what, 0, 2)) {
            return OUTSIDE;
        }
        if (!readGoodHold()) {
            return NO;
        }
        int x = seed;
        int allGood = 0;
        int rides = 0;
        int empty = 0;
        for (int night = 0; night < m; night++) {
            x = (75 * x + 74) % 65537;
            int come = world.people & x;
            int ride = come & slack.ridersLate(delays, x / 256 % 4);
            allGood += world.goodAmong(come, ride);
            rides += Integer.bitCount(ride);
            empty += ride == 0 ? 1 : 0;
        }
        if (what == 0) {
            return allGood + 100000;
        }
        return what == 1 ? rides : empty;
    }

    public int image(int k) {
        if (!within(k, 0, IMAGES - 1)) {
            return OUTSIDE;
        }
        World kept = images[k];
        if (kept == null) {
            kept = new World();
            images[k] = kept;
        }
        kept.copyFrom(world);
        return 1;
    }

    public int restore(int k) {
        if (!within(k, 0, IMAGES - 1)) {
            return OUTSIDE;
        }
        World kept = images[k];
        if (kept == null) {
            return STATE;
        }
        world.copyFrom(kept);
        return 1;
    }

    public int told(int what) {
        switch (what) {
            case 0: return pad.count;
            case 1: return world.stops;
            case 2: return world.closed;
            case 3: return world.people;
            case 4: return world.breaths;
            case 5: return world.each;
            case 6: return world.sights;
            default: break;
        }
        if (within(what, 10, 9 + world.stops)) {
            return world.seconds[what - 10];
        }
        return what < 20 ? OUTSIDE : world.tellPerson(what / 10 - 2, what % 10);
    }

    // ---- what the calls share

    private static boolean within(int v, int least, int most) {
        return v >= least && v <= most;
    }

    private static boolean isGood(int v) {
        return within(v, -9, 9);
    }

    private static boolean areRunners(int later, int t, int part) {
        return within(later, 1, 20) && within(t, 0, 10) && within(part, 0, 1);
    }

    private boolean isStopOrAll(int stop) {
        return stop == -1 || world.isStop(stop);
    }

    private boolean areSets(int ride, int walk) {
        return ((ride | walk) & ~world.people) == 0 && (ride & walk) == 0;
    }

    /** A part of upper by lower in lowest terms; lower is above 0. */
    private static long partOf(int upper, int lower, int part) {
        int a = Math.abs(upper);
        int b = lower;
        for (int step = 0; step < 100 && a != 0; step++) {
            int rest = b % a;
            b = a;
            a = rest;
        }
        if (b == 0) {
            return 0;
        }
        return part == 0 ? upper / b : lower / b;
    }

    /** Breaths by the pad's hold, none at closed stops; false: there is a fault. */
    private boolean readHold() {
        if (pad.faultOf(world.stops, world.stops) != NONE) {
            return false;
        }
        for (int s = 0; s < world.stops; s++) {
            hold[s] = world.isClosed(s) ? 0 : pad.digit(s);
        }
        return true;
    }

    private int stopOverEach() {
        for (int s = 0; s < world.stops; s++) {
            if (hold[s] > world.each) {
                return s;
            }
        }
        return NONE;
    }

    private int stopOverBreaths() {
        int sum = 0;
        for (int s = 0; s < world.stops; s++) {
            sum += hold[s];
            if (sum > world.breaths) {
                return s;
            }
        }
        return NONE;
    }

    /** The pad's hold, its delays and the people's needs stand ready; false: it can not be. */
    private boolean readGoodHold() {
        if (!readHold() || stopOverEach() != NONE || stopOverBreaths() != NONE) {
            return false;
        }
        slack.measure(world.closed);
        addDelays();
        return true;
    }

    private void addDelays() {
        int sum = 0;
        for (int s = 0; s < world.stops; s++) {
            sum += hold[s];
            delays[s] = sum;
        }
    }

    private void clearDelays() {
        for (int s = 0; s < MOST_STOPS; s++) {
            delays[s] = 0;
        }
    }

    private int ridersWithout(int stop) {
        int were = hold[stop];
        hold[stop] = 0;
        addDelays();
        int who = slack.ridersBy(delays);
        hold[stop] = were;
        return who;
    }

    private int mostGood(int breaths) {
        slack.measure(world.closed);
        planner.wantGood(world.people, breaths);
        planner.weighAll(0);
        return planner.solve(breaths);
    }

    /** The fewest breaths together by which all of one set ride and none of the other; NONE. */
    private int fewestBreaths(int ride, int walk) {
        slack.measure(world.closed);
        planner.wantSets(ride, walk);
        planner.weighAll(-1);
        int score = planner.solve(world.breaths);
        return score <= FORBIDDEN / 2 ? NONE : -score;
    }

    /** The signs that were said. */
    private static final class Pad {
        final int[] signs = new int[MOST_SIGNS];
        int count;

        boolean put(int sign) {
            if (count < 0 || count >= MOST_SIGNS) {
                return false;
            }
            signs[count] = sign;
            count++;
            return true;
        }

        int digit(int place) {
            return place >= 0 && place < count ? signs[place] - '0' : 0;
        }

        /** The fault of a text of least to most digits; NONE. */
        int faultOf(int least, int most) {
            for (int i = 0; i < count; i++) {
                if (i >= most || !within(digit(i), 0, 9)) {
                    return i;
                }
            }
            return count < least ? count : NONE;
        }
    }

    /** All but the pad: what an image keeps. */
    private static final class World {
        int stops = 3;
        int closed;
        int breaths = 4;
        int each = 9;
        int people;
        int sights;
        int sawRide;
        int sawWalk;
        final int[] seconds = {5, 5, 5, 0, 0, 0};
        final int[] at = new int[MOST_PEOPLE];
        final int[] comes = new int[MOST_PEOPLE];
        final int[] ride = new int[MOST_PEOPLE];
        final int[] walk = new int[MOST_PEOPLE];
        final int[] other = new int[MOST_PEOPLE];
        final int[] nights = new int[MOST_PEOPLE];

        void copyFrom(World from) {
            stops = from.stops;
            closed = from.closed;
            breaths = from.breaths;
            each = from.each;
            people = from.people;
            sights = from.sights;
            sawRide = from.sawRide;
            sawWalk = from.sawWalk;
            System.arraycopy(from.seconds, 0, seconds, 0, MOST_STOPS);
            System.arraycopy(from.at, 0, at, 0, MOST_PEOPLE);
            System.arraycopy(from.comes, 0, comes, 0, MOST_PEOPLE);
            System.arraycopy(from.ride, 0, ride, 0, MOST_PEOPLE);
            System.arraycopy(from.walk, 0, walk, 0, MOST_PEOPLE);
            System.arraycopy(from.other, 0, other, 0, MOST_PEOPLE);
            System.arraycopy(from.nights, 0, nights, 0, MOST_PEOPLE);
        }

        /** The pad holds a line without a fault. */
        void startLine(Pad pad) {
            stops = Math.max(1, Math.min(pad.count, MOST_STOPS));
            for (int s = 0; s < stops; s++) {
                seconds[s] = pad.digit(s);
            }
            closed = 0;
            people = 0;
            clearSights();
        }

        boolean isStop(int stop) {
            return within(stop, 0, stops - 1);
        }

        boolean isPerson(int person) {
            return within(person, 0, MOST_PEOPLE - 1) && (people >> person & 1) == 1;
        }

        boolean isClosed(int stop) {
            return (closed >> stop & 1) == 1;
        }

        int mayHold(int stop, int left) {
            return isClosed(stop) ? 0 : Math.min(each, left);
        }

        /** When the tram leaves a stop with nothing held, these being closed. */
        int departs(int stop, int shut) {
            int sum = 0;
            for (int s = 0; s <= stop && s < MOST_STOPS; s++) {
                sum += seconds[s];
                if (s < stop && (shut >> s & 1) == 1 && seconds[s] > 0) {
                    sum--;
                }
            }
            return sum;
        }

        int goodOf(int riders) {
            return goodAmong(people, riders);
        }

        /** The good of those who come, some of whom ride. */
        int goodAmong(int come, int riders) {
            int sum = 0;
            for (int p = 0; p < MOST_PEOPLE; p++) {
                if ((come >> p & 1) == 1) {
                    sum += (riders >> p & 1) == 1 ? ride[p] : walk[p];
                }
            }
            return sum;
        }

        int othersOf(int riders) {
            int sum = 0;
            for (int p = 0; p < MOST_PEOPLE; p++) {
                if ((riders >> p & 1) == 1) {
                    sum += other[p];
                }
            }
            return sum;
        }

        int comeIn(int night) {
            int set = 0;
            for (int p = 0; p < MOST_PEOPLE; p++) {
                if (isPerson(p) && (nights[p] >> night & 1) == 1) {
                    set |= 1 << p;
                }
            }
            return set;
        }

        void addSight(int person, boolean rode) {
            sights++;
            if (rode) {
                sawRide |= 1 << person;
            } else {
                sawWalk |= 1 << person;
            }
        }

        void clearSights() {
            sights = 0;
            sawRide = 0;
            sawWalk = 0;
        }

        int tellPerson(int person, int what) {
            if (!isPerson(person)) {
                return OUTSIDE;
            }
            switch (what) {
                case 0: return at[person];
                case 1: return comes[person];
                case 2: return ride[person] + 10;
                case 3: return walk[person] + 10;
                case 4: return other[person] + 10;
                case 5: return nights[person];
                default: return OUTSIDE;
            }
        }
    }

    /** How many breaths, at a person's stop and ahead of it, each person needs so as to ride. */
    private static final class Slack {
        final World world;
        final int[] need = new int[MOST_PEOPLE];

        Slack(World w) {
            world = w;
        }

        void measure(int shut) {
            for (int p = 0; p < MOST_PEOPLE; p++) {
                int stop = world.at[p];
                boolean never = !world.isPerson(p) || (shut >> stop & 1) == 1;
                need[p] = never ? NEVER : world.comes[p] - world.departs(stop, shut);
            }
        }

        int ridersBy(int[] delays) {
            return ridersLate(delays, 0);
        }

        int ridersLate(int[] delays, int late) {
            int set = 0;
            for (int p = 0; p < MOST_PEOPLE; p++) {
                if (need[p] + late <= delays[world.at[p]]) {
                    set |= 1 << p;
                }
            }
            return set;
        }

        /** In how many tenths a person rides who is late in t tenths. */
        int tenths(int person, int delay, int later, int t) {
            int onTime = need[person] <= delay ? 10 - t : 0;
            int late = need[person] + later <= delay ? t : 0;
            return onTime + late;
        }
    }

    /**
     * Finds the hold with the highest score. What people want depends on the delay at their stop
     * alone, so it goes from the last stop to the first, delay by delay, not through all holds.
     */
    private static final class Planner {
        final World world;
        final Slack slack;
        /** What a delay at a stop scores. */
        final int[] gain = new int[MOST_STOPS * DELAYS];
        /** What each breath at a stop scores. */
        final int[] weight = new int[MOST_STOPS];
        final int[] value = new int[(MOST_STOPS + 1) * DELAYS];
        final int[] pick = new int[MOST_STOPS * DELAYS];

        Planner(World w, Slack s) {
            world = w;
            slack = s;
        }

        void wantGood(int who, int limit) {
            clearGain();
            for (int p = 0; p < MOST_PEOPLE; p++) {
                if ((who >> p & 1) == 1) {
                    int row = world.at[p] * DELAYS;
                    for (int d = 0; d <= limit && d < DELAYS; d++) {
                        gain[row + d] += slack.need[p] <= d ? world.ride[p] : world.walk[p];
                    }
                }
            }
        }

        void wantSets(int ride, int walk) {
            clearGain();
            for (int p = 0; p < MOST_PEOPLE; p++) {
                int row = world.at[p] * DELAYS;
                for (int d = 0; d < DELAYS; d++) {
                    int against = slack.need[p] <= d ? walk : ride;
                    if ((against >> p & 1) == 1) {
                        gain[row + d] = FORBIDDEN;
                    }
                }
            }
        }

        private void clearGain() {
            for (int i = 0; i < gain.length; i++) {
                gain[i] = 0;
            }
        }

        void weighAll(int w) {
            for (int s = 0; s < MOST_STOPS; s++) {
                weight[s] = w;
            }
        }

        /** The highest score by a hold of at most so many breaths. */
        int solve(int limit) {
            startRow(world.stops, 0);
            for (int s = world.stops - 1; s >= 0; s--) {
                for (int d = 0; d <= limit && d < DELAYS; d++) {
                    choose(s, d, limit);
                }
            }
            return value[0];
        }

        private void startRow(int stop, int v) {
            for (int d = 0; d < DELAYS; d++) {
                value[stop * DELAYS + d] = v;
            }
        }

        /** The best go-on from a stop with a delay ahead of it; of several the fewest breaths. */
        private void choose(int stop, int delay, int limit) {
            int most = world.mayHold(stop, limit - delay);
            int cell = stop * DELAYS + delay;
            int top = 0;
            for (int b = 0; b <= most; b++) {
                int score = gain[cell + b] + weight[stop] * b + value[cell + DELAYS + b];
                if (b == 0 || score > top) {
                    top = score;
                    pick[cell] = b;
                }
            }
            value[cell] = top;
        }

        /** Breaths at a stop by the hold that solve found: the first by stops of all that score so. */
        int breathsAt(int stop) {
            int delay = 0;
            int b = 0;
            for (int s = 0; s <= stop && s < MOST_STOPS; s++) {
                b = pick[s * DELAYS + delay];
                delay = Math.min(delay + b, DELAYS - 1);
            }
            return b;
        }

        /** How many holds of at most so many breaths have nothing that is forbidden. */
        int countHolds(int limit) {
            startRow(world.stops, 1);
            for (int s = world.stops - 1; s >= 0; s--) {
                for (int d = 0; d <= limit && d < DELAYS; d++) {
                    int most = world.mayHold(s, limit - d);
                    int cell = s * DELAYS + d;
                    int ways = 0;
                    for (int b = 0; b <= most; b++) {
                        ways += gain[cell + b] == 0 ? value[cell + DELAYS + b] : 0;
                    }
                    value[cell] = ways;
                }
            }
            return value[0];
        }

        /** The most good by exactly so many breaths, 0 to the limit, into a row from a place on. */
        void spendExactly(int limit, int[] row, int from) {
            for (int d = 0; d <= limit; d++) {
                row[from + d] = d == 0 ? 0 : FORBIDDEN;
            }
            for (int s = 0; s < world.stops; s++) {
                // From the longest delay down, so that the row still tells the stop ahead for shorter ones.
                for (int d = limit; d >= 0; d--) {
                    int most = world.mayHold(s, d);
                    int top = row[from + d];
                    for (int b = 1; b <= most; b++) {
                        top = Math.max(top, row[from + d - b]);
                    }
                    row[from + d] = top + gain[s * DELAYS + d];
                }
            }
        }
    }

    /** A fund of breaths, shared out over nights. */
    private static final class Purse {
        private static final int TOTALS = 10;
        private static final int FUNDS = MOST_FUND + 1;

        final World world;
        final Planner planner;
        /** Night by night the most good by exactly 0 to 9 breaths. */
        final int[] nightly = new int[MOST_NIGHTS * TOTALS];
        /** The most good from a night on with so much left. */
        final int[] onward = new int[(MOST_NIGHTS + 1) * FUNDS];

        Purse(World w, Planner p) {
            world = w;
            planner = p;
        }

        int share(int fund, int m) {
            for (int left = 0; left <= fund; left++) {
                onward[m * FUNDS + left] = 0;
            }
            for (int night = m - 1; night >= 0; night--) {
                planner.wantGood(world.comeIn(night), world.breaths);
                planner.spendExactly(world.breaths, nightly, night * TOTALS);
                for (int left = 0; left <= fund; left++) {
                    onward[night * FUNDS + left] = scoreOf(night, left, fewestOfBest(night, left));
                }
            }
            return onward[fund];
        }

        private int scoreOf(int night, int left, int b) {
            return nightly[night * TOTALS + b] + onward[(night + 1) * FUNDS + left - b];
        }

        private int fewestOfBest(int night, int left) {
            int most = Math.min(world.breaths, left);
            int found = 0;
            int top = scoreOf(night, left, 0);
            for (int b = 1; b <= most; b++) {
                int score = scoreOf(night, left, b);
                if (score > top) {
                    top = score;
                    found = b;
                }
            }
            return found;
        }

        /** Breaths in a night by the last sharing out. */
        int spentIn(int night, int fund) {
            int left = fund;
            int b = 0;
            for (int i = 0; i <= night && i < MOST_NIGHTS; i++) {
                b = fewestOfBest(i, left);
                left -= b;
            }
            return b;
        }
    }

    /**
     * The god and the rival by turns. Delays never fall from stop to stop; the rows of them are
     * numbered in the combinatorial number system, where one breath more gives a higher number:
     * going down through the numbers finds all that can follow a hold settled.
     */
    private static final class Duel {
        /** An outcome is one number: the god's and the rival's share, each moved to be above 0. */
        private static final int SHIFT = 500;
        private static final int BASE = 1000;

        final World world;
        final Slack slack;
        /** What comes out, if it is this one's turn and the other has not just passed. */
        final int[] onGod = new int[MOST_RANKS];
        final int[] onRival = new int[MOST_RANKS];
        final int[] delays = new int[MOST_STOPS];
        /** The numbers of the holds with one breath more at a stop; NONE where none may be held. */
        final int[] next = new int[MOST_STOPS];
        int first;
        /** What comes out by the best breath that can be held, and its stop; NONE. */
        private int moveOutcome;
        private int moveStop;

        Duel(World w, Slack s) {
            world = w;
            slack = s;
        }

        int godHas() {
            return onGod[0] / BASE - SHIFT;
        }

        int rivalHas() {
            return onGod[0] % BASE - SHIFT;
        }

        void play() {
            for (int s = 0; s < world.stops; s++) {
                delays[s] = world.breaths;
            }
            int ranks = Math.min(ways(world.breaths + world.stops, world.stops), MOST_RANKS);
            for (int rank = ranks - 1; rank >= 0; rank--) {
                findNext(rank);
                settle(rank);
                stepDown();
            }
        }

        private static int ways(int of, int take) {
            boolean told = within(of, 0, CHOOSE_ROWS - 1) && within(take, 0, CHOOSE_COLUMNS - 1);
            return told ? CHOOSE[of * CHOOSE_COLUMNS + take] : 0;
        }

        /** The row of delays whose number is one lower. */
        private void stepDown() {
            for (int s = 0; s < world.stops; s++) {
                if (delays[s] > 0) {
                    int less = delays[s] - 1;
                    for (int i = 0; i <= s; i++) {
                        delays[i] = less;
                    }
                    return;
                }
            }
        }

        private void findNext(int rank) {
            boolean full = delays[world.stops - 1] >= world.breaths;
            int number = rank;
            for (int s = world.stops - 1; s >= 0; s--) {
                number += ways(delays[s] + s, s);
                int here = s == 0 ? delays[0] : delays[s] - delays[s - 1];
                boolean may = !full && here < world.mayHold(s, world.breaths);
                next[s] = may && number < MOST_RANKS ? number : NONE;
            }
        }

        private void settle(int rank) {
            int who = slack.ridersBy(delays);
            int here = (world.goodOf(who) + SHIFT) * BASE + world.othersOf(who) + SHIFT;
            findMove(false);
            int rivalMove = moveOutcome;
            findMove(true);
            first = NONE;
            if (moveStop == NONE) {
                onGod[rank] = here;
                onRival[rank] = here;
                return;
            }
            int rivalAfterPass = better(false, rivalMove, here) ? rivalMove : here;
            int godAfterPass = better(true, moveOutcome, here) ? moveOutcome : here;
            onRival[rank] = better(false, rivalMove, godAfterPass) ? rivalMove : godAfterPass;
            onGod[rank] = rivalAfterPass;
            if (better(true, moveOutcome, rivalAfterPass)) {
                onGod[rank] = moveOutcome;
                first = moveStop;
            }
        }

        private static boolean better(boolean forGod, int outcome, int than) {
            return forGod ? outcome / BASE > than / BASE : outcome % BASE > than % BASE;
        }

        private void findMove(boolean forGod) {
            moveStop = NONE;
            moveOutcome = 0;
            for (int s = 0; s < world.stops; s++) {
                if (next[s] >= 0) {
                    int outcome = forGod ? onRival[next[s]] : onGod[next[s]];
                    if (moveStop == NONE || better(forGod, outcome, moveOutcome)) {
                        moveStop = s;
                        moveOutcome = outcome;
                    }
                }
            }
        }
    }
}
