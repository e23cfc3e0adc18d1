/** Boundary cases of the document, sentence by sentence: promises 11 to 15. */
public final class EdgesOfHoldsTest {
    private static final int UNKNOWN = Edges.UNKNOWN, OUTSIDE = Edges.OUTSIDE, NO = Edges.NO, NONE = Edges.NONE;

    /** A hold that does not stand: nothing said, too few, too many, no digit, too much at a stop, too much in all. */
    private static final String[] NO_HOLDS = {"", "002", "00210", "00/1", "00:1", "4000", "0004", "3003"};

    private static TramGod richBy(String hold) {
        return Edges.text(Edges.rich(), hold);
    }

    private static TramGod by(String seconds, String hold) {
        return Edges.text(Edges.onLine(seconds), hold);
    }

    private static void refusedWithoutAHold(String name, Edges.Call call) {
        for (String signs : NO_HOLDS) Edges.refused(() -> richBy(signs), name + " by " + signs, call, NO);
    }

    // ---- 11 judge

    private static void judged(TramGod x, String hold, int stop, int why) {
        Edges.text(x, hold);
        Edges.due("judge(0) of " + hold, x.judge(0), stop);
        Edges.due("judge(1) of " + hold, x.judge(1), why);
    }

    private static void moreThanEach() {
        Edges.says(0, "1 at some STOP there is more than EACH (the first such)");
        TramGod x = Edges.onLine("555555");
        x.set(0, 9);
        x.set(1, 3);
        judged(x, "300000", NONE, NONE);
        judged(x, "400000", 0, 1);
        judged(x, "000003", NONE, NONE);
        judged(x, "000004", 5, 1);
        judged(x, "000404", 3, 1);
        x.set(1, 0);
        judged(x, "000000", NONE, NONE);
        judged(x, "000001", 5, 1);
        x.set(1, 9);
        judged(x, "000009", NONE, NONE);
        x.set(1, 8);
        judged(x, "000009", 5, 1);
    }

    private static void moreThanBreaths() {
        Edges.says(0, "2 all together are more than BREATHS (at the STOP where it is passed first)");
        TramGod x = Edges.onLine("555555");
        judged(x, "400000", NONE, NONE);
        judged(x, "500000", 0, 2);
        judged(x, "111100", NONE, NONE);
        judged(x, "111110", 4, 2);
        judged(x, "111101", 5, 2);
        judged(x, "130111", 3, 2);
        x.set(0, 0);
        judged(x, "000000", NONE, NONE);
        judged(x, "000001", 5, 2);
        x.set(0, 9);
        judged(x, "222210", NONE, NONE);
        judged(x, "222211", 5, 2);
        judged(x, "999999", 1, 2);
        judged(x, "090000", NONE, NONE);
    }

    private static void theLeastReason() {
        Edges.says(0, "A HOLD can not be for the least of these reasons");
        TramGod x = Edges.onLine("555555");
        x.set(1, 3);
        judged(x, "333333", 1, 2);
        judged(x, "333334", 5, 1);
        judged(x, "500000", 0, 1);
        x.close(5, true);
        judged(x, "333334", 1, 2);
        judged(x, "000009", NONE, NONE);
        x.close(1, true);
        judged(x, "191111", NONE, NONE);
        judged(x, "191121", 4, 2);
        for (int s = 0; s < 6; s++) x.close(s, true);
        judged(x, "999999", NONE, NONE);
    }

    private static void judgeRefused() {
        Edges.says(11, "JUDGED: the STOP (what = 0), why (1); NONE. OUTSIDE; NO: there is a FAULT (1).");
        Edges.range(Edges::rich, "judge", TramGod::judge, 0, 1, OUTSIDE);
        for (String signs : new String[] {"", "002", "00210", "00/1", "00:1", "00210021002100210021"}) {
            Edges.refused(() -> richBy(signs), "judge(0) of " + signs, x -> x.judge(0), NO);
            Edges.refused(() -> richBy(signs), "judge(1) of " + signs, x -> x.judge(1), NO);
            Edges.refused(() -> richBy(signs), "judge(2) of " + signs, x -> x.judge(2), OUTSIDE);
            Edges.refused(() -> richBy(signs), "judge(-1) of " + signs, x -> x.judge(-1), OUTSIDE);
        }
        Edges.due("judge(1): what can not be is told, not refused", Edges.richWithTooMuch().judge(1), 2);
    }

    // ---- 12 riders

    private static void ridersRefused() {
        Edges.says(12, "NO: there is a FAULT (1), or the HOLD can not be.");
        refusedWithoutAHold("riders()", TramGod::riders);
        Edges.due("riders(), EACH just kept", richBy("3000").riders() >= 0 ? 1 : 0, 1);
        Edges.due("riders(), BREATHS just kept", richBy("3002").riders() >= 0 ? 1 : 0, 1);
    }

    private static void nobodyAndAllRide() {
        Edges.says(12, "RIDERS.");
        TramGod x = by("1", "0");
        Edges.due("riders(): there is nobody", x.riders(), 0);
        for (int p = 0; p < 8; p++) x.person(p, 0, 2, 0, 0, 0);
        Edges.due("riders(): all a second late", x.riders(), 0);
        Edges.text(x, "1");
        Edges.due("riders(): all in time", x.riders(), 255);
        x.close(0, true);
        Edges.due("riders(): the stop is closed", x.riders(), 0);
    }

    // ---- 13 good

    private static void goodRefused() {
        Edges.says(13, "GOOD (what = 0), OTHERS (1), and 1000. OUTSIDE; NO, likewise.");
        Edges.range(Edges::rich, "good", TramGod::good, 0, 1, OUTSIDE);
        refusedWithoutAHold("good(0)", x -> x.good(0));
        refusedWithoutAHold("good(1)", x -> x.good(1));
        for (String signs : NO_HOLDS) {
            Edges.refused(() -> richBy(signs), "good(2) by " + signs, x -> x.good(2), OUTSIDE);
            Edges.refused(() -> richBy(signs), "good(-1) by " + signs, x -> x.good(-1), OUTSIDE);
        }
    }

    private static void leastAndMostGood() {
        Edges.says(0, "GOOD of it: all RIDES of those who ride, WALKS of the others; OTHERS: what the rival has of it");
        TramGod x = by("1", "0");
        Edges.due("good(0) of nobody", x.good(0), 1000);
        Edges.due("good(1) of nobody", x.good(1), 1000);
        for (int p = 0; p < 8; p++) x.person(p, 0, 2, 9, -9, -9);
        Edges.due("good(0), all walk", x.good(0), 1000 - 72);
        Edges.due("good(1), none of it", x.good(1), 1000);
        Edges.text(x, "1");
        Edges.due("good(0), all ride", x.good(0), 1000 + 72);
        Edges.due("good(1), all of it", x.good(1), 1000 - 72);
        for (int p = 0; p < 8; p++) x.person(p, 0, 2, -9, 9, 9);
        Edges.due("good(0), all ride", x.good(0), 1000 - 72);
        Edges.due("good(1), all of it", x.good(1), 1000 + 72);
        x.close(0, true);
        Edges.due("good(0), the stop is closed", x.good(0), 1000 + 72);
        Edges.due("good(1), the stop is closed", x.good(1), 1000);
    }

    // ---- 14 leaves

    private static void leavesRefused() {
        Edges.says(14, "LEAVES. UNKNOWN; NO, likewise.");
        Edges.range(Edges::rich, "leaves", TramGod::leaves, 0, 3, UNKNOWN);
        Edges.range(() -> by("5", "0"), "leaves, one stop", TramGod::leaves, 0, 0, UNKNOWN);
        Edges.range(() -> by("555555", "000000"), "leaves, six stops", TramGod::leaves, 0, 5, UNKNOWN);
        refusedWithoutAHold("leaves(0)", x -> x.leaves(0));
        for (String signs : NO_HOLDS) {
            Edges.refused(() -> richBy(signs), "leaves(4) by " + signs, x -> x.leaves(4), UNKNOWN);
            Edges.refused(() -> richBy(signs), "leaves(-1) by " + signs, x -> x.leaves(-1), UNKNOWN);
        }
    }

    private static void soonestAndLatest() {
        Edges.says(0, "the tram LEAVES a STOP at the sum of SECONDS up to it, and of all breaths held there and ahead of it");
        TramGod x = by("000000", "000000");
        for (int s = 0; s < 6; s++) Edges.due("leaves(" + s + "), nothing at all", x.leaves(s), 0);
        TramGod y = Edges.onLine("999999");
        y.set(0, 9);
        Edges.text(y, "900000");
        for (int s = 0; s < 6; s++) Edges.due("leaves(" + s + "), all held first", y.leaves(s), 9 * s + 18);
        Edges.text(y, "000009");
        for (int s = 0; s < 5; s++) Edges.due("leaves(" + s + "), all held behind", y.leaves(s), 9 * s + 9);
        Edges.due("leaves(5), all held there", y.leaves(5), 63);
    }

    // ---- 15 vain

    private static void vainRefused() {
        Edges.says(15, "VAIN; NONE. NO, likewise.");
        refusedWithoutAHold("vain()", TramGod::vain);
    }

    private static void vain(TramGod x, String hold, int due) {
        Edges.due("vain() of " + hold, Edges.text(x, hold).vain(), due);
    }

    private static void firstHeldInVain() {
        Edges.says(0, "the first STOP that is not CLOSED, at which something is held, by which, were nothing held there, "
            + "the same PEOPLE would ride; NONE");
        TramGod x = Edges.onLine("555");
        vain(x, "000", NONE);
        vain(x, "100", 0);
        vain(x, "001", 2);
        vain(x, "111", 0);
        // 0 rides with one breath at stop 0 or 1: either alone is needed, of both the first is in vain.
        x.person(0, 1, 11, 0, 0, 0);
        vain(x, "100", NONE);
        vain(x, "010", NONE);
        vain(x, "200", NONE);
        vain(x, "110", 0);
        vain(x, "101", 2);
        vain(x, "011", 2);
        // 1 rides with one breath at stop 0 alone.
        x.person(1, 0, 6, 0, 0, 0);
        vain(x, "110", 1);
        vain(x, "010", NONE);
        x.close(0, true);
        vain(x, "900", NONE);
        vain(x, "910", 1);
        vain(x, "920", NONE);
        x.close(1, true);
        vain(x, "990", NONE);
        vain(x, "991", 2);
        x.close(2, true);
        vain(x, "999", NONE);
    }

    public static void main(String[] args) {
        moreThanEach();
        moreThanBreaths();
        theLeastReason();
        judgeRefused();
        ridersRefused();
        nobodyAndAllRide();
        goodRefused();
        leastAndMostGood();
        leavesRefused();
        soonestAndLatest();
        vainRefused();
        firstHeldInVain();
        Edges.end(11, 15);
    }
}
