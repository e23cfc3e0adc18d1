/** Boundary cases of the document, sentence by sentence: promises 22 to 32. */
public final class EdgesOfSightsTest {
    private static final int UNKNOWN = Edges.UNKNOWN, OUTSIDE = Edges.OUTSIDE, STATE = Edges.STATE;
    private static final int FULL = Edges.FULL, NO = Edges.NO, NONE = Edges.NONE;
    private static final long GONE = Edges.GONE;

    /** For rich(): nothing said, too few, too many, no digit, too much at a stop, too much in all. */
    private static final String[] NO_HOLDS = {"", "002", "00210", "00/1", "00:1", "4000", "0004", "3003"};

    private static TramGod richBy(String hold) {
        return Edges.text(Edges.rich(), hold);
    }

    private static TramGod by(String seconds, String hold) {
        return Edges.text(Edges.onLine(seconds), hold);
    }

    // ---- 22 closing

    private static void closingRefused() {
        Edges.says(22, "OUTSIDE: k 0 to 6.");
        Edges.range(Edges::rich, "closing, k", (x, v) -> x.closing(v, 0), 0, 6, OUTSIDE);
        Edges.range(Edges::rich, "closing, k for the set", (x, v) -> x.closing(v, 1), 0, 6, OUTSIDE);
        Edges.says(22, "GOOD and 1000 (what = 0), the set (1); NONE.");
        Edges.range(Edges::rich, "closing, what", (x, v) -> x.closing(1, v), 0, 1, OUTSIDE);
        Edges.refused(Edges::rich, "closing(6, 2): there are not so many", x -> x.closing(6, 2), OUTSIDE);
        Edges.refused(Edges::rich, "closing(7, 2)", x -> x.closing(7, 2), OUTSIDE);
    }

    private static void closing(TramGod x, int k, int good, int set) {
        Edges.due("closing(" + k + ", 0)", x.closing(k, 0), good == NONE ? NONE : 1000 + good);
        Edges.due("closing(" + k + ", 1)", x.closing(k, 1), set);
    }

    private static void noneAndAllClosed() {
        Edges.says(0, "NONE: there are not so many.");
        for (int n = 1; n <= 6; n++) {
            TramGod x = Edges.onLine("555555".substring(0, n));
            closing(x, 0, 0, 0);
            closing(x, 1, 0, 1);
            closing(x, n, 0, (1 << n) - 1);
            for (int k = n + 1; k <= 6; k++) closing(x, k, NONE, NONE);
            x.close(0, true);
            closing(x, n - 1, 0, (1 << n) - 2);
            closing(x, n, NONE, NONE);
            for (int s = 1; s < n; s++) x.close(s, true);
            closing(x, 0, 0, 0);
            closing(x, 1, NONE, NONE);
        }
    }

    private static void leastAsBits() {
        Edges.says(0, "k more STOPS (of those that are not CLOSED) are to be CLOSED, nothing being held anywhere: "
            + "GOOD that is left at the most; the set of these k, least as bits of as good");
        TramGod x = Edges.onLine("000000");
        x.person(0, 0, 0, 5, 0, 0);
        x.person(1, 1, 0, 5, 0, 0);
        closing(x, 1, 10, 4);
        closing(x, 4, 10, 4 + 8 + 16 + 32);
        closing(x, 5, 5, 1 + 4 + 8 + 16 + 32);
        closing(x, 6, 0, 63);
        x.close(2, true);
        closing(x, 1, 10, 8);
        closing(x, 4, 5, 1 + 8 + 16 + 32);
        closing(x, 5, 0, 63 - 4);
        closing(x, 6, NONE, NONE);
        Edges.due("told(2): nothing was closed by it", x.told(2), 4);
        // A hold on the pad is not asked: 0 walks, who rides by it.
        TramGod y = by("5", "4");
        y.person(0, 0, 6, 9, -9, 0);
        Edges.due("good(0), held", y.good(0), 1009);
        closing(y, 0, -9, 0);
        closing(y, 1, -9, 1);
        // A second sooner behind a closed stop, not behind one of 0 seconds.
        TramGod z = Edges.onLine("105");
        z.person(0, 2, 6, 9, 0, 0);
        closing(z, 1, 9, 2);
        closing(z, 2, 0, 3);
        for (int p = 0; p < 8; p++) z.person(p, 2, 6, 9, -9, 0);
        closing(z, 1, 72, 2);
        closing(z, 2, -72, 3);
    }

    // ---- 23 seen, 24 forget

    private static TramGod withSights(int many) {
        TramGod x = Edges.rich();
        x.forget();
        for (int i = 0; i < many; i++) x.seen(i % 2 == 0 ? 3 : 0, i % 2 == 0 ? 1 : 0);
        return x;
    }

    private static void seenRefused() {
        Edges.says(23, "A SIGHT more: how many. UNKNOWN; OUTSIDE; FULL.");
        Edges.range(Edges::rich, "seen, rode", (x, v) -> x.seen(7, v), 0, 1, OUTSIDE);
        for (int v : new int[] {-1, 4, 5, 6, 8}) {
            Edges.refused(Edges::rich, "seen of " + v, x -> x.seen(v, 1), UNKNOWN);
            Edges.refused(Edges::rich, "seen of " + v + ", rode 2", x -> x.seen(v, 2), UNKNOWN);
            Edges.refused(() -> withSights(8), "seen of " + v + ", full", x -> x.seen(v, 1), UNKNOWN);
        }
        for (int v : Edges.FAR) Edges.refused(Edges::rich, "seen of " + v, x -> x.seen(v, 0), UNKNOWN);
        Edges.says(0, "SIGHTS, 8 at most: a PERSON rode (1), or did not (0).");
        for (int many = 0; many < 8; many++) Edges.due("seen behind " + many, withSights(many).seen(3, 1), many + 1);
        Edges.refused(() -> withSights(8), "seen behind 8", x -> x.seen(3, 1), FULL);
        Edges.refused(() -> withSights(8), "seen behind 8, of another", x -> x.seen(7, 0), FULL);
        Edges.refused(() -> withSights(8), "seen behind 8, rode 2", x -> x.seen(3, 2), OUTSIDE);
        Edges.refused(() -> withSights(8), "seen behind 8, rode -1", x -> x.seen(3, -1), OUTSIDE);
        TramGod x = withSights(8);
        x.leave(3);
        Edges.due("seen: full, and of one who is no more", x.seen(3, 1), UNKNOWN);
        Edges.due("told(6): its sights still count", x.told(6), 8);
        Edges.due("seen(0, 0): it is still full", x.seen(0, 0), FULL);
    }

    private static void forgottenSights() {
        Edges.says(24, "SIGHTS go: how many there were.");
        TramGod x = new TramGod();
        Edges.due("forget() of none", x.forget(), 0);
        x.person(0, 0, 6, 0, 0, 0);
        x.seen(0, 0);
        Edges.due("held(-1, 0): nothing at stop 0", x.held(-1, 0), 15);
        Edges.due("forget() of one", x.forget(), 1);
        Edges.due("held(-1, 0)", x.held(-1, 0), 35);
        for (int i = 1; i <= 8; i++) Edges.due("seen", x.seen(0, 1), i);
        Edges.due("forget() of all", x.forget(), 8);
        Edges.due("forget() twice", x.forget(), 0);
        Edges.due("told(6)", x.told(6), 0);
        Edges.due("seen: there is room again", x.seen(0, 1), 1);
    }

    // ---- 25 held

    private static void heldRefused() {
        Edges.says(25, "UNKNOWN; OUTSIDE.");
        Edges.range(Edges::rich, "held, stop", (x, v) -> x.held(v, 0), -1, 3, UNKNOWN);
        Edges.range(Edges::rich, "held, stop for the greatest", (x, v) -> x.held(v, 1), -1, 3, UNKNOWN);
        Edges.range(Edges::rich, "held, what at a stop", (x, v) -> x.held(0, v), 0, 1, OUTSIDE);
        Edges.range(Edges::rich, "held, what of all", (x, v) -> x.held(-1, v), 0, 1, OUTSIDE);
        Edges.range(() -> Edges.onLine("5"), "held, one stop", (x, v) -> x.held(v, 1), -1, 0, UNKNOWN);
        Edges.range(() -> Edges.onLine("555555"), "held, six stops", (x, v) -> x.held(v, 1), -1, 5, UNKNOWN);
        Edges.refused(Edges::rich, "held(4, 2)", x -> x.held(4, 2), UNKNOWN);
        Edges.refused(Edges::rich, "held(-2, -1)", x -> x.held(-2, -1), UNKNOWN);
    }

    private static void held(TramGod x, int many, int fewest) {
        Edges.due("held(-1, 0)", x.held(-1, 0), many);
        Edges.due("held(-1, 1)", x.held(-1, 1), fewest);
    }

    private static void atStop(TramGod x, int stop, int least, int greatest) {
        Edges.due("held(" + stop + ", 0)", x.held(stop, 0), least);
        Edges.due("held(" + stop + ", 1)", x.held(stop, 1), greatest);
    }

    private static void holdsThatCanBe() {
        Edges.says(0, "HELD: HOLDS that can be (0 at STOPS that are CLOSED) by which all SIGHTS are so");
        TramGod x = Edges.onLine("555555");
        int[][] laws = {{0, 9, 1, 0}, {9, 0, 1, 0}, {1, 1, 7, 1}, {5, 1, 63, 1}, {6, 1, 64, 1}, {9, 1, 64, 1}, {9, 9, 5005, 9},
            {9, 8, 4999, 8}, {8, 9, 3003, 8}};
        for (int[] law : laws) {
            x.set(0, law[0]);
            x.set(1, law[1]);
            held(x, law[2], 0);
            atStop(x, 0, 0, law[3]);
            atStop(x, 5, 0, law[3]);
        }
        x.close(5, true);
        held(x, 1287, 0);
        atStop(x, 5, 0, 0);
        for (int s = 0; s < 5; s++) x.close(s, true);
        held(x, 1, 0);
        atStop(x, 0, 0, 0);
    }

    private static void noneFit() {
        Edges.says(25, "NONE: there are none (how many is 0 then).");
        TramGod x = Edges.onLine("5");
        x.person(0, 0, 9, 0, 0, 0);
        held(x, 5, 0);
        x.seen(0, 1);
        held(x, 1, 4);
        atStop(x, 0, 4, 4);
        x.set(0, 3);
        held(x, 0, NONE);
        atStop(x, 0, NONE, NONE);
        x.set(0, 4);
        x.seen(0, 0);
        held(x, 0, NONE);
        atStop(x, 0, NONE, NONE);
        x.forget();
        x.seen(0, 0);
        held(x, 4, 0);
        atStop(x, 0, 0, 3);
        x.close(0, true);
        held(x, 1, 0);
        x.seen(0, 1);
        held(x, 0, NONE);
    }

    private static void whatIsSure() {
        Edges.says(25, "the least (0), the greatest (1) at a STOP");
        TramGod x = Edges.onLine("555");
        x.person(0, 0, 6, 0, 0, 0);
        x.person(1, 1, 12, 0, 0, 0);
        x.person(2, 2, 18, 0, 0, 0);
        x.person(3, 2, 19, 0, 0, 0);
        x.seen(2, 1);
        // Three or four breaths in all: 10 and 15 holds.
        held(x, 25, 3);
        for (int s = 0; s < 3; s++) atStop(x, s, 0, 4);
        x.seen(3, 0);
        held(x, 10, 3);
        for (int s = 0; s < 3; s++) atStop(x, s, 0, 3);
        // Behind a call that asks for the fewest in all the least at each stop is asked for by itself.
        Edges.due("meant(4, 0, -1)", x.meant(4, 0, -1), 3);
        for (int s = 2; s >= 0; s--) Edges.due("held(" + s + ", 0)", x.held(s, 0), 0);
        x.seen(1, 0);
        held(x, 3, 3);
        atStop(x, 0, 0, 1);
        atStop(x, 1, 0, 1);
        atStop(x, 2, 2, 3);
        x.seen(0, 1);
        held(x, 1, 3);
        atStop(x, 0, 1, 1);
        atStop(x, 1, 0, 0);
        atStop(x, 2, 2, 2);
        x.set(1, 1);
        held(x, 0, NONE);
        for (int s = 0; s < 3; s++) atStop(x, s, NONE, NONE);
    }

    // ---- 26 runs

    private static void runsRefused() {
        Edges.says(26, "UNKNOWN; OUTSIDE; NO, as of riders().");
        for (int v : new int[] {-1, 4, 5, 6, 8}) {
            Edges.refused(Edges::rich, "runs of " + v, x -> x.runs(v, 1, 1, 0), GONE + UNKNOWN);
            Edges.refused(Edges::richWithFault, "runs of " + v + ", later 0, no hold", x -> x.runs(v, 0, 11, 2), GONE + UNKNOWN);
        }
        for (int v : Edges.FAR) Edges.refused(Edges::rich, "runs of " + v, x -> x.runs(v, 1, 1, 0), GONE + UNKNOWN);
        Edges.says(0, "each PERSON comes LATER by so many seconds (1 to 20) with t tenths (0 to 10), each by itself, else as told");
        Edges.range(Edges::rich, "runs, later", (x, v) -> x.runs(7, v, 1, 0), 1, 20, GONE + OUTSIDE);
        Edges.range(Edges::rich, "runs, t", (x, v) -> x.runs(7, 1, v, 0), 0, 10, GONE + OUTSIDE);
        Edges.says(0, "Fractions are told in lowest terms by part: 0 the upper, 1 the lower number (above 0; the upper may be below 0)");
        Edges.range(Edges::rich, "runs, part", (x, v) -> x.runs(7, 1, 1, v), 0, 1, GONE + OUTSIDE);
        Edges.says(0, "refused with GONE and the refusal, added");
        for (String signs : NO_HOLDS) {
            Edges.refused(() -> richBy(signs), "runs by " + signs, x -> x.runs(7, 1, 1, 0), GONE + NO);
            Edges.refused(() -> richBy(signs), "runs, the lower, by " + signs, x -> x.runs(7, 1, 1, 1), GONE + NO);
            Edges.refused(() -> richBy(signs), "runs, later 21, by " + signs, x -> x.runs(7, 21, 1, 1), GONE + OUTSIDE);
            Edges.refused(() -> richBy(signs), "runs, part 2, by " + signs, x -> x.runs(7, 1, 1, 2), GONE + OUTSIDE);
        }
    }

    private static void runs(TramGod x, int person, int later, int t, int upper, int lower) {
        String call = "runs(" + person + ", " + later + ", " + t + ", ";
        Edges.due(call + "0)", x.runs(person, later, t, 0), upper);
        Edges.due(call + "1)", x.runs(person, later, t, 1), lower);
    }

    private static void sureAndNever() {
        Edges.says(26, "RUNNERS: that a PERSON RIDES.");
        TramGod x = by("9999", "0000");
        x.person(0, 2, 7, 0, 0, 0);
        x.person(1, 2, 8, 0, 0, 0);
        x.person(2, 2, 27, 0, 0, 0);
        x.person(3, 2, 28, 0, 0, 0);
        int[][] tenths = {{1, 1}, {9, 10}, {4, 5}, {7, 10}, {3, 5}, {1, 2}, {2, 5}, {3, 10}, {1, 5}, {1, 10}, {0, 1}};
        for (int t = 0; t <= 10; t++) {
            runs(x, 0, 20, t, 1, 1);
            runs(x, 1, 20, t, tenths[t][0], tenths[t][1]);
            runs(x, 1, 19, t, 1, 1);
            runs(x, 2, 1, t, tenths[t][0], tenths[t][1]);
            runs(x, 3, 1, t, 0, 1);
        }
        x.close(2, true);
        runs(x, 0, 1, 0, 0, 1);
        runs(x, 0, 20, 10, 0, 1);
    }

    // ---- 27 mean

    private static void meanRefused() {
        Edges.says(27, "RUNNERS: the mean. OUTSIDE; NO, likewise.");
        Edges.range(Edges::rich, "mean, later", (x, v) -> x.mean(v, 1, 1), 1, 20, GONE + OUTSIDE);
        Edges.range(Edges::rich, "mean, t", (x, v) -> x.mean(1, v, 1), 0, 10, GONE + OUTSIDE);
        Edges.range(Edges::rich, "mean, part", (x, v) -> x.mean(1, 1, v), 0, 1, GONE + OUTSIDE);
        for (String signs : NO_HOLDS) {
            Edges.refused(() -> richBy(signs), "mean by " + signs, x -> x.mean(1, 1, 0), GONE + NO);
            Edges.refused(() -> richBy(signs), "mean, the lower, by " + signs, x -> x.mean(1, 1, 1), GONE + NO);
            Edges.refused(() -> richBy(signs), "mean, t 11, by " + signs, x -> x.mean(1, 11, 1), GONE + OUTSIDE);
        }
    }

    private static void mean(TramGod x, int later, int t, int upper, int lower) {
        String call = "mean(" + later + ", " + t + ", ";
        Edges.due(call + "0)", x.mean(later, t, 0), upper);
        Edges.due(call + "1)", x.mean(later, t, 1), lower);
    }

    private static void belowAndAboveNothing() {
        Edges.says(0, "(above 0; the upper may be below 0)");
        TramGod x = by("5", "0");
        mean(x, 1, 5, 0, 1);
        x.person(0, 0, 5, 1, -1, 0);
        int[][] means = {{1, 1}, {4, 5}, {3, 5}, {2, 5}, {1, 5}, {0, 1}, {-1, 5}, {-2, 5}, {-3, 5}, {-4, 5}, {-1, 1}};
        for (int t = 0; t <= 10; t++) mean(x, 1, t, means[t][0], means[t][1]);
        x.person(0, 0, 5, -9, 0, 0);
        mean(x, 1, 1, -81, 10);
        mean(x, 1, 5, -9, 2);
        mean(x, 20, 10, 0, 1);
        for (int p = 0; p < 8; p++) x.person(p, 0, 5, 9, -9, 0);
        mean(x, 1, 0, 72, 1);
        mean(x, 1, 1, 288, 5);
        mean(x, 1, 10, -72, 1);
        x.close(0, true);
        mean(x, 1, 0, -72, 1);
    }

    // ---- 28 waits

    private static TramGod closedBy(int stop) {
        TramGod x = Edges.rich();
        x.close(stop, true);
        return x;
    }

    private static void waitsRefused() {
        Edges.says(28, "WAIT; NONE. UNKNOWN; OUTSIDE; STATE: its STOP is CLOSED.");
        for (int v : new int[] {-1, 4, 5, 6, 8}) {
            Edges.refused(Edges::rich, "waits of " + v, x -> x.waits(v, 1, 1, 1, 2), UNKNOWN);
            Edges.refused(Edges::rich, "waits of " + v + ", all else outside", x -> x.waits(v, 0, 11, -1, 0), UNKNOWN);
        }
        for (int v : Edges.FAR) Edges.refused(Edges::rich, "waits of " + v, x -> x.waits(v, 1, 1, 1, 2), UNKNOWN);
        Edges.range(Edges::rich, "waits, later", (x, v) -> x.waits(7, v, 1, 1, 2), 1, 20, OUTSIDE);
        Edges.range(Edges::rich, "waits, t", (x, v) -> x.waits(7, 1, v, 1, 2), 0, 10, OUTSIDE);
        // 1 is at the stop that is closed.
        Edges.refused(Edges::rich, "waits of 1", x -> x.waits(1, 1, 1, 0, 1), STATE);
        Edges.refused(() -> closedBy(2), "waits of 7", x -> x.waits(7, 20, 10, 100, 100), STATE);
        Edges.refused(Edges::rich, "waits of 1, later 0", x -> x.waits(1, 0, 1, 0, 1), OUTSIDE);
        Edges.refused(Edges::rich, "waits of 1, t 11", x -> x.waits(1, 1, 11, 0, 1), OUTSIDE);
        Edges.refused(Edges::rich, "waits of 1, a 2 by 1", x -> x.waits(1, 1, 1, 2, 1), OUTSIDE);
        Edges.refused(Edges::rich, "waits of 1, b 101", x -> x.waits(1, 1, 1, 1, 101), OUTSIDE);
    }

    private static void partsOfOne() {
        Edges.says(0, "is a by b (b 1 to 100, a 0 to b) at least; NONE");
        Edges.range(Edges::rich, "waits, b", (x, v) -> x.waits(7, 1, 1, 0, v), 1, 100, OUTSIDE);
        for (int b : new int[] {1, 2, 99, 100}) {
            Edges.range(Edges::rich, "waits, a by " + b, (x, v) -> x.waits(7, 1, 1, v, b), 0, b, OUTSIDE);
        }
        Edges.refused(Edges::rich, "waits, 0 by 0", x -> x.waits(7, 1, 1, 0, 0), OUTSIDE);
        Edges.refused(Edges::rich, "waits, -1 by -1", x -> x.waits(7, 1, 1, -1, -1), OUTSIDE);
        TramGod x = Edges.onLine("5");
        x.person(0, 0, 7, 0, 0, 0);
        x.person(1, 0, 99, 0, 0, 0);
        Edges.due("0 by 1: no wait at all", x.waits(1, 20, 10, 0, 1), 0);
        Edges.due("1 by 100 of one who never rides", x.waits(1, 20, 10, 1, 100), NONE);
        Edges.due("just as much: 3 by 10", x.waits(0, 2, 7, 3, 10), 2);
        Edges.due("just as much: 30 by 100", x.waits(0, 2, 7, 30, 100), 2);
        Edges.due("a little more: 31 by 100", x.waits(0, 2, 7, 31, 100), 4);
        Edges.due("a third is less than 4 tenths", x.waits(0, 2, 6, 1, 3), 2);
        Edges.due("a third is more than 3 tenths", x.waits(0, 2, 7, 1, 3), 4);
        Edges.due("never in time: 1 by 100", x.waits(0, 2, 10, 1, 100), 4);
        Edges.due("always in time: 100 by 100", x.waits(0, 2, 0, 100, 100), 2);
        Edges.due("99 by 100", x.waits(0, 1, 1, 99, 100), 3);
        Edges.due("90 by 100", x.waits(0, 1, 1, 90, 100), 2);
        Edges.due("91 by 100", x.waits(0, 1, 1, 91, 100), 3);
    }

    private static void atAStopAlone() {
        Edges.says(0, "WAIT: the fewest breaths at a STOP alone (EACH, BREATHS at most)");
        TramGod x = Edges.onLine("05");
        x.person(0, 1, 13, 0, 0, 0);
        int[][] laws = {{9, 9, 9}, {8, 9, NONE}, {9, 8, NONE}, {0, 9, NONE}, {9, 0, NONE}};
        for (int[] law : laws) {
            x.set(0, law[0]);
            x.set(1, law[1]);
            Edges.due("BREATHS " + law[0] + ", EACH " + law[1], x.waits(0, 1, 10, 1, 1), law[2]);
        }
        x.set(0, 9);
        x.set(1, 5);
        Edges.due("what stop 0 could hold is not asked", x.waits(0, 1, 10, 1, 1), NONE);
        x.set(0, 0);
        x.person(0, 1, 4, 0, 0, 0);
        Edges.due("in time without a breath", x.waits(0, 1, 10, 1, 1), 0);
        x.person(0, 1, 5, 0, 0, 0);
        Edges.due("a second too late", x.waits(0, 1, 10, 1, 1), NONE);
        Edges.text(x, "00000000000000000000");
        Edges.due("what is on the pad is not asked", x.waits(0, 1, 0, 1, 1), 0);
    }

    // ---- 29 year

    private static void yearRefused() {
        Edges.says(0, "A YEAR by a seed (0 to 9999) of m nights (1 to 99)");
        Edges.range(Edges::rich, "year, seed", (x, v) -> x.year(v, 9, 0), 0, 9999, OUTSIDE);
        Edges.range(Edges::rich, "year, m", (x, v) -> x.year(1, v, 0), 1, 99, OUTSIDE);
        Edges.says(29, "A YEAR: GOOD (what = 0), how many (1), nights (2). OUTSIDE; NO, likewise.");
        Edges.range(Edges::rich, "year, what", (x, v) -> x.year(1, 9, v), 0, 2, OUTSIDE);
        for (String signs : NO_HOLDS) {
            for (int what = 0; what < 3; what++) {
                int asked = what;
                Edges.refused(() -> richBy(signs), "year(0, 1, " + what + ") by " + signs, x -> x.year(0, 1, asked), NO);
            }
            Edges.refused(() -> richBy(signs), "year(10000, 1, 0) by " + signs, x -> x.year(10000, 1, 0), OUTSIDE);
            Edges.refused(() -> richBy(signs), "year(0, 0, 0) by " + signs, x -> x.year(0, 0, 0), OUTSIDE);
            Edges.refused(() -> richBy(signs), "year(0, 1, 3) by " + signs, x -> x.year(0, 1, 3), OUTSIDE);
        }
    }

    private static void year(TramGod x, int seed, int m, int good, int rides, int empty) {
        String call = "year(" + seed + ", " + m + ", ";
        Edges.due(call + "0)", x.year(seed, m, 0), 100000 + good);
        Edges.due(call + "1)", x.year(seed, m, 1), rides);
        Edges.due(call + "2)", x.year(seed, m, 2), empty);
    }

    private static void emptyYears() {
        Edges.says(0, "in how many nights nobody does");
        TramGod x = by("5", "0");
        year(x, 0, 1, 0, 0, 1);
        year(x, 9999, 99, 0, 0, 99);
        for (int p = 0; p < 8; p++) x.person(p, 0, 99, 0, 1, 0);
        Edges.due("all walk: nobody rides", x.year(9999, 99, 1), 0);
        Edges.due("all walk: all nights", x.year(9999, 99, 2), 99);
        for (int p = 0; p < 8; p++) x.person(p, 0, 2, 1, 0, 0);
        Edges.due("nobody walks: those who ride are the good", x.year(9999, 99, 0) - 100000, x.year(9999, 99, 1));
    }

    /** Each person rides for another good, so that the good tells who came. */
    private static TramGod told(int comes) {
        TramGod x = by("5", "0");
        int[] ride = {1, 2, 4, 8, -1, -2, -4, -8};
        for (int p = 0; p < 8; p++) x.person(p, 0, comes, ride[p], 0, 0);
        return x;
    }

    private static void leftOver() {
        Edges.says(0, "becomes for each night (75 x and 74) left over by 65537");
        // 75 * 872 + 74 = 65474: 1, 6 and 7 come, 3 seconds later; 75 * 873 + 74 = 65549, which is 12: 2 and 3 come, no later.
        year(told(2), 872, 1, 2 - 4 - 8, 3, 0);
        year(told(3), 872, 1, 0, 0, 1);
        year(told(5), 873, 1, 4 + 8, 2, 0);
        year(told(6), 873, 1, 0, 0, 1);
        // Behind 12 comes 974: 1, 2, 3, 6 and 7, 3 seconds later.
        year(told(2), 873, 2, 4 + 8 + 2 + 4 + 8 - 4 - 8, 2 + 5, 0);
        year(told(3), 873, 2, 4 + 8, 2, 1);
        // The first seed: 74: 1, 3 and 6; the last: 749999, which is 29092: 2, 5 and 7, 1 second later.
        year(told(5), 0, 1, 2 + 8 - 4, 3, 0);
        year(told(4), 9999, 1, 4 - 2 - 8, 3, 0);
        year(told(5), 9999, 1, 0, 0, 1);
    }

    private static void laterBySeconds() {
        Edges.says(0, "and comes later by x by 256 (cut) left over by 4 seconds");
        // 75 * 2 + 74 = 224; 75 * 3 + 74 = 299; 75 * 6 + 74 = 524; 75 * 10 + 74 = 824; 75 * 13 + 74 = 1049: 0, 1, 2, 3, 0 seconds.
        int[] seeds = {2, 3, 6, 10, 13};
        int[] later = {0, 1, 2, 3, 0};
        for (int i = 0; i < seeds.length; i++) {
            Edges.due("year(" + seeds[i] + ", 1, 2), just in time", told(5 - later[i]).year(seeds[i], 1, 2), 0);
            Edges.due("year(" + seeds[i] + ", 1, 2), a second late", told(6 - later[i]).year(seeds[i], 1, 2), 1);
        }
    }

    // ---- 30 image, 31 restore

    private static void imageRefused() {
        Edges.says(30, "All but the PAD is kept in an IMAGE (0, 1): 1. OUTSIDE.");
        Edges.range(Edges::rich, "image", TramGod::image, 0, 1, OUTSIDE);
        Edges.range(TramGod::new, "image, nothing kept", TramGod::image, 0, 1, OUTSIDE);
        Edges.says(31, "It is as it was when it was kept: 1. OUTSIDE; STATE: it was not.");
        Edges.range(Edges::rich, "restore", TramGod::restore, 0, 1, OUTSIDE);
        Edges.refused(TramGod::new, "restore(2), nothing kept", x -> x.restore(2), OUTSIDE);
        Edges.refused(TramGod::new, "restore(-1), nothing kept", x -> x.restore(-1), OUTSIDE);
        Edges.refused(TramGod::new, "restore(0), nothing kept", x -> x.restore(0), STATE);
        Edges.refused(TramGod::new, "restore(1), nothing kept", x -> x.restore(1), STATE);
        for (int k = 0; k < 2; k++) {
            int kept = k;
            Edges.refused(() -> keptIn(kept), "restore of the other than " + k, x -> x.restore(1 - kept), STATE);
            Edges.due("restore(" + k + ")", keptIn(k).restore(k), 1);
        }
    }

    private static TramGod keptIn(int k) {
        TramGod x = Edges.four();
        x.image(k);
        return x;
    }

    /** All that an image keeps is changed, one thing after the other, each to what it was not. */
    private static void spoil(TramGod x) {
        Edges.text(x, "123456").line();
        x.set(0, 9);
        x.set(1, 1);
        x.close(0, true);
        x.close(5, true);
        for (int p = 0; p < 8; p++) {
            x.person(p, 4, 90 + p, -7, -8, -9);
            x.nights(p, 96);
            x.seen(p, p < 4 ? 0 : 1);
        }
    }

    private static TramGod spoiltAndRestored(int k) {
        TramGod x = Edges.rich();
        x.image(k);
        spoil(x);
        x.restore(k);
        return Edges.text(x, "0021");
    }

    private static TramGod richKeptIn(int k) {
        TramGod x = Edges.rich();
        x.image(k);
        return x;
    }

    private static void allIsAsItWas() {
        Edges.says(30, "All but the PAD is kept in an IMAGE (0, 1): 1.");
        for (int k = 0; k < 2; k++) Edges.same("restore(" + k + ")", spoiltAndRestored(k), richKeptIn(k));
        TramGod x = Edges.four();
        x.image(0);
        spoil(x);
        x.image(1);
        Edges.due("restore(0)", x.restore(0), 1);
        Edges.same("restore(0) of one", Edges.text(x, "000"), fourAndSpoilt());
    }

    /** Four, never spoilt; image 1 is what spoiling makes of it. */
    private static TramGod fourAndSpoilt() {
        TramGod x = new TramGod();
        spoil(x);
        x.image(1);
        Edges.text(x, "555").line();
        x.set(0, 4);
        x.set(1, 9);
        x.person(0, 0, 7, 4, -1, 2);
        x.person(1, 1, 11, -5, 3, 6);
        x.person(2, 2, 15, 2, 0, -4);
        x.person(3, 2, 17, 9, -9, 1);
        x.image(0);
        return Edges.text(x, "000");
    }

    private static void asItWas() {
        Edges.says(31, "It is as it was when it was kept: 1.");
        TramGod x = Edges.rich();
        Edges.text(x, "7").line();
        x.set(0, 9);
        x.set(1, 9);
        x.person(6, 0, 1, 1, 1, 1);
        x.seen(6, 0);
        Edges.text(x, "4");
        Edges.due("restore(0)", x.restore(0), 1);
        Edges.due("told(0): the pad stays", x.told(0), 1);
        Edges.due("fault(0)", x.fault(0), NONE);
        Edges.due("fault(1): the line has four stops again", x.fault(1), 1);
        int[] due = {1, 4, 4, 143, 5, 3, 0};
        for (int i = 1; i < 7; i++) Edges.due("told(" + i + ")", x.told(i), due[i]);
        int[] three = {3, 11, 19, 1, 11, 3};
        for (int i = 0; i < 6; i++) Edges.due("told(" + (50 + i) + ")", x.told(50 + i), three[i]);
        Edges.due("restore(0) twice", x.restore(0), 1);
        // What is done behind a restore does not reach the image; an image anew forgets the one ahead of it.
        x.leave(3);
        x.seen(0, 1);
        x.restore(0);
        Edges.due("told(3)", x.told(3), 143);
        Edges.due("told(6)", x.told(6), 0);
        x.leave(3);
        Edges.due("image(0) anew", x.image(0), 1);
        x.leave(0);
        x.restore(0);
        Edges.due("told(3)", x.told(3), 143 - 8);
        Edges.due("restore(1): the other is as it was", x.restore(1), 1);
        Edges.due("told(3)", x.told(3), 32);
        Edges.due("told(6)", x.told(6), 1);
        Edges.due("restore(0) behind it: images stay", x.restore(0), 1);
        Edges.due("told(3)", x.told(3), 143 - 8);
    }

    // ---- 32 told

    private static void toldRefused() {
        Edges.says(32, "OUTSIDE.");
        for (int v : new int[] {-1, 7, 8, 9, 14, 15, 16, 19, 26, 29, 96, 99, 100, 105, 110, -10, -20, -26}) {
            Edges.refused(Edges::rich, "told(" + v + ")", x -> x.told(v), OUTSIDE);
        }
        for (int p : new int[] {4, 5, 6}) {
            for (int i = 0; i < 6; i++) Edges.due("told of one who is not there", Edges.rich().told(20 + 10 * p + i), OUTSIDE);
        }
        for (int v : new int[] {Integer.MIN_VALUE, Integer.MAX_VALUE, 256, 65536, 1 << 30, 65536 + 10, 256 + 20}) {
            Edges.refused(Edges::rich, "told(" + v + ")", x -> x.told(v), OUTSIDE);
        }
        Edges.says(32, "10 on SECONDS of STOPS");
        TramGod one = Edges.onLine("7");
        TramGod six = Edges.onLine("012349");
        Edges.due("told(10) of one", one.told(10), 7);
        Edges.due("told(11) of one", one.told(11), OUTSIDE);
        int[] seconds = {0, 1, 2, 3, 4, 9};
        for (int s = 0; s < 6; s++) Edges.due("told(" + (10 + s) + ") of six", six.told(10 + s), seconds[s]);
        Edges.due("told(16) of six", six.told(16), OUTSIDE);
        Edges.says(32, "10 times (2 and a PERSON that there is) and 0 its STOP, 1 COMES, 2 RIDE and 10, 3 WALK and 10, "
            + "4 OTHER and 10, 5 nights (bits).");
        six.person(0, 0, 0, -9, -9, -9);
        six.person(7, 5, 99, 9, 9, 9);
        six.nights(0, 0);
        int[] zero = {0, 0, 1, 1, 1, 0, OUTSIDE};
        int[] seven = {5, 99, 19, 19, 19, 127, OUTSIDE};
        for (int i = 0; i < 7; i++) {
            Edges.due("told(" + (20 + i) + ")", six.told(20 + i), zero[i]);
            Edges.due("told(" + (90 + i) + ")", six.told(90 + i), seven[i]);
        }
        six.leave(7);
        Edges.due("told(90), it is no more", six.told(90), OUTSIDE);
        Edges.says(32, "0 signs, 1 STOPS, 2 CLOSED ones (bits), 3 PEOPLE (bits), 4 BREATHS, 5 EACH, 6 SIGHTS");
        int[] due = {4, 4, 2, 143, 5, 3, 2, OUTSIDE};
        for (int i = 0; i < 8; i++) Edges.due("told(" + i + ")", Edges.rich().told(i), due[i]);
    }

    public static void main(String[] args) {
        closingRefused();
        noneAndAllClosed();
        leastAsBits();
        seenRefused();
        forgottenSights();
        heldRefused();
        holdsThatCanBe();
        noneFit();
        whatIsSure();
        runsRefused();
        sureAndNever();
        meanRefused();
        belowAndAboveNothing();
        waitsRefused();
        partsOfOne();
        atAStopAlone();
        yearRefused();
        emptyYears();
        leftOver();
        laterBySeconds();
        imageRefused();
        allIsAsItWas();
        asItWas();
        toldRefused();
        Edges.end(22, 32);
    }
}
