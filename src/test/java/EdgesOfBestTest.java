/** Boundary cases of the document, sentence by sentence: promises 16 to 21. */
public final class EdgesOfBestTest {
    private static final int UNKNOWN = Edges.UNKNOWN, OUTSIDE = Edges.OUTSIDE, FULL = Edges.FULL, NONE = Edges.NONE;

    /** One stop of 5 seconds; person 0 needs so many breaths so as to ride, which is 9 of good, and walks for none. */
    private static TramGod needs(int breaths) {
        TramGod x = Edges.onLine("5");
        x.person(0, 0, 5 + breaths, 9, 0, 0);
        return x;
    }

    private static void laws(TramGod x, int breaths, int each) {
        x.set(0, breaths);
        x.set(1, each);
    }

    // ---- 16 best

    private static void bestRefused() {
        Edges.says(16, "BEST and 1000 (stop = -1), breaths at a STOP. UNKNOWN.");
        Edges.range(Edges::rich, "best", TramGod::best, -1, 3, UNKNOWN);
        Edges.range(() -> Edges.onLine("5"), "best, one stop", TramGod::best, -1, 0, UNKNOWN);
        Edges.range(() -> Edges.onLine("555555"), "best, six stops", TramGod::best, -1, 5, UNKNOWN);
        Edges.due("best(-1): what is on the pad is not asked", Edges.richWithFault().best(-1), Edges.rich().best(-1));
    }

    private static void best(TramGod x, int good, int... breaths) {
        Edges.due("best(-1)", x.best(-1), 1000 + good);
        for (int s = 0; s < breaths.length; s++) Edges.due("best(" + s + ")", x.best(s), breaths[s]);
    }

    private static void bestByAHoldThatCanBe() {
        Edges.says(0, "the most GOOD by a HOLD that can be: how much");
        best(new TramGod(), 0, 0, 0, 0);
        TramGod x = needs(9);
        laws(x, 9, 9);
        best(x, 9, 9);
        laws(x, 8, 9);
        best(x, 0, 0);
        laws(x, 9, 8);
        best(x, 0, 0);
        laws(x, 0, 9);
        best(x, 0, 0);
        x.person(0, 0, 5, 9, 0, 0);
        best(x, 9, 0);
        laws(x, 9, 0);
        best(x, 9, 0);
        x.close(0, true);
        best(x, 0, 0);
        x.person(0, 0, 5, -9, 9, 0);
        best(x, 9, 0);
    }

    private static void leastAndMostOfAll() {
        Edges.says(16, "BEST and 1000");
        TramGod x = Edges.onLine("5");
        for (int p = 0; p < 8; p++) x.person(p, 0, 6, 9, -9, 0);
        best(x, 72, 1);
        x.set(0, 0);
        best(x, -72, 0);
        for (int p = 0; p < 8; p++) x.person(p, 0, 6, -9, 9, 0);
        best(x, 72, 0);
        for (int p = 0; p < 8; p++) x.person(p, 0, 5, -9, 9, 0);
        best(x, -72, 0);
    }

    private static void firstByStops() {
        Edges.says(0, "at a STOP (of several HOLDS the first by STOPS, fewest breaths first)");
        TramGod x = Edges.onLine("000000");
        x.set(0, 9);
        x.person(0, 5, 9, 1, 0, 0);
        best(x, 1, 0, 0, 0, 0, 0, 9);
        x.set(1, 2);
        best(x, 1, 0, 1, 2, 2, 2, 2);
        x.close(5, true);
        best(x, 0, 0, 0, 0, 0, 0, 0);
        x.close(5, false);
        x.close(3, true);
        best(x, 1, 1, 2, 2, 0, 2, 2);
        x.close(4, true);
        best(x, 0, 0, 0, 0, 0, 0, 0);
        TramGod y = Edges.onLine("00");
        y.person(0, 1, 1, 0, 0, 0);
        best(y, 0, 0, 0);
    }

    // ---- 17 worth

    private static void worth(TramGod x, int breaths, int each, int due) {
        laws(x, breaths, each);
        Edges.due("worth(), BREATHS " + breaths + ", EACH " + each, x.worth(), due);
        Edges.due("told(4) behind it", x.told(4), breaths);
    }

    private static void oneMoreBreath() {
        Edges.says(0, "WORTH of one more breath: BEST with BREATHS one more, less BEST.");
        worth(new TramGod(), 4, 9, 0);
        TramGod x = needs(4);
        worth(x, 2, 9, 0);
        worth(x, 3, 9, 9);
        worth(x, 3, 4, 9);
        worth(x, 3, 3, 0);
        worth(x, 4, 9, 0);
        x.close(0, true);
        worth(x, 3, 9, 0);
        Edges.says(17, "WORTH.");
        // The tenth breath, where BREATHS are nine: two stops can hold it, one can not.
        TramGod y = Edges.onLine("00");
        y.person(0, 1, 10, 7, -2, 0);
        worth(y, 9, 9, 9);
        worth(y, 9, 5, 9);
        worth(y, 9, 4, 0);
        worth(y, 8, 9, 0);
        worth(needs(10), 9, 9, 0);
        TramGod z = Edges.onLine("000000");
        z.person(0, 5, 10, 1, 0, 0);
        worth(z, 9, 2, 1);
        z.close(0, true);
        worth(z, 9, 2, 1);
        z.person(0, 5, 11, 1, 0, 0);
        worth(z, 9, 9, 0);
        TramGod all = Edges.onLine("5");
        for (int p = 0; p < 8; p++) all.person(p, 0, 6, 9, -9, 0);
        worth(all, 0, 1, 144);
        worth(all, 0, 0, 0);
    }

    // ---- 18 meant

    private static void meantRefused() {
        Edges.says(18, "UNKNOWN; OUTSIDE: sets are of PEOPLE, none in both.");
        Edges.range(Edges::rich, "meant, stop", (x, v) -> x.meant(1, 2, v), -1, 3, UNKNOWN);
        // There are 0, 1, 2, 3 and 7.
        for (int p : new int[] {4, 5, 6, 8, 30, 31}) {
            Edges.refused(Edges::rich, "to ride: bit " + p, x -> x.meant(1 << p, 0, -1), OUTSIDE);
            Edges.refused(Edges::rich, "to walk: bit " + p, x -> x.meant(0, 1 << p, -1), OUTSIDE);
        }
        for (int p : new int[] {0, 1, 2, 3, 7}) {
            Edges.due("to walk or ride: bit " + p, Edges.rich().meant(1 << p, 0, -1) == OUTSIDE ? 1 : 0, 0);
            Edges.refused(Edges::rich, "in both: bit " + p, x -> x.meant(1 << p, 1 << p, -1), OUTSIDE);
        }
        Edges.refused(Edges::rich, "meant(-1, 0, -1)", x -> x.meant(-1, 0, -1), OUTSIDE);
        Edges.refused(Edges::rich, "meant(0, 255, -1)", x -> x.meant(0, 255, -1), OUTSIDE);
        Edges.refused(Edges::rich, "meant(143, 1, 0): one in both", x -> x.meant(143, 1, 0), OUTSIDE);
        Edges.refused(Edges::rich, "meant(16, 0, 4): the stop first", x -> x.meant(16, 0, 4), UNKNOWN);
        Edges.refused(Edges::rich, "meant(1, 1, -2): the stop first", x -> x.meant(1, 1, -2), UNKNOWN);
        Edges.refused(TramGod::new, "meant(1, 0, 0): there is nobody", x -> x.meant(1, 0, 0), OUTSIDE);
    }

    private static void meant(TramGod x, int ride, int walk, int all, int... breaths) {
        Edges.due("meant(" + ride + ", " + walk + ", -1)", x.meant(ride, walk, -1), all);
        for (int s = 0; s < breaths.length; s++) {
            Edges.due("meant(" + ride + ", " + walk + ", " + s + ")", x.meant(ride, walk, s), breaths[s]);
        }
    }

    private static void fewestTogether() {
        Edges.says(0, "MEANT: the fewest breaths together by which all of a set ride and none of another set: how many; "
            + "at a STOP (the first by STOPS, fewest first); NONE.");
        meant(new TramGod(), 0, 0, 0, 0, 0, 0);
        TramGod x = needs(4);
        meant(x, 0, 0, 0, 0);
        meant(x, 1, 0, 4, 4);
        meant(x, 0, 1, 0, 0);
        x.set(0, 3);
        meant(x, 1, 0, NONE, NONE);
        laws(x, 9, 4);
        meant(x, 1, 0, 4, 4);
        laws(x, 9, 3);
        meant(x, 1, 0, NONE, NONE);
        laws(x, 9, 9);
        x.close(0, true);
        meant(x, 1, 0, NONE, NONE);
        meant(x, 0, 1, 0, 0);
        TramGod y = Edges.onLine("000000");
        y.set(0, 9);
        for (int p = 0; p < 8; p++) y.person(p, 5, 9, 0, 0, 0);
        meant(y, 255, 0, 9, 0, 0, 0, 0, 0, 9);
        meant(y, 0, 255, 0, 0, 0, 0, 0, 0, 0);
        meant(y, 128, 127, NONE, NONE);
        // 7 alone a second sooner than the others.
        y.person(7, 4, 8, 0, 0, 0);
        meant(y, 128, 127, 8, 0, 0, 0, 0, 8, 0);
        meant(y, 127, 128, 9, 0, 0, 0, 0, 0, 9);
        y.set(1, 8);
        meant(y, 127, 128, 9, 0, 0, 0, 0, 1, 8);
        y.set(1, 1);
        meant(y, 127, 128, NONE, NONE);
    }

    // ---- 19 bars

    private static void barsRefused() {
        Edges.says(19, "BARS; NONE. OUTSIDE, likewise.");
        for (int p : new int[] {4, 5, 6, 8, 30, 31}) {
            Edges.refused(Edges::rich, "to ride: bit " + p, x -> x.bars(1 << p, 0), OUTSIDE);
            Edges.refused(Edges::rich, "to walk: bit " + p, x -> x.bars(0, 1 << p), OUTSIDE);
        }
        for (int p : new int[] {0, 1, 2, 3, 7}) {
            Edges.refused(Edges::rich, "in both: bit " + p, x -> x.bars(1 << p, 1 << p), OUTSIDE);
        }
        Edges.refused(Edges::rich, "bars(-1, 0)", x -> x.bars(-1, 0), OUTSIDE);
        Edges.refused(Edges::rich, "bars(0, -1)", x -> x.bars(0, -1), OUTSIDE);
        Edges.refused(TramGod::new, "bars(1, 0): there is nobody", x -> x.bars(1, 0), OUTSIDE);
    }

    private static void whoBars() {
        Edges.says(0, "BARS: the least PERSON of both sets without whom it could be (from his set); NONE: it can be, or none alone bars it.");
        Edges.due("bars(0, 0) of nobody", new TramGod().bars(0, 0), NONE);
        TramGod x = Edges.onLine("5");
        for (int p = 0; p < 8; p++) x.person(p, 0, p < 4 ? 5 : 6, 0, 0, 0);
        Edges.due("bars(15, 240): it can be", x.bars(15, 240), NONE);
        Edges.due("bars(255, 0): it can be", x.bars(255, 0), NONE);
        Edges.due("bars(128, 64): without either", x.bars(128, 64), 6);
        Edges.due("bars(64, 128): without either", x.bars(64, 128), 6);
        Edges.due("bars(192, 32): without 5 alone", x.bars(192, 32), 5);
        Edges.due("bars(32, 192): without 5 alone", x.bars(32, 192), 5);
        Edges.due("bars(192, 48): none alone", x.bars(192, 48), NONE);
        Edges.due("bars(128, 1): 0 always rides", x.bars(128, 1), 0);
        Edges.due("bars(1, 128): it can be", x.bars(1, 128), NONE);
        Edges.due("bars(0, 3): none alone", x.bars(0, 3), NONE);
        Edges.due("bars(0, 8): the only one", x.bars(0, 8), 3);
        x.set(0, 0);
        Edges.due("bars(143, 112), no breaths: the last person", x.bars(143, 112), 7);
        x.close(0, true);
        Edges.due("bars(1, 0), closed", x.bars(1, 0), 0);
        Edges.due("bars(3, 0), closed", x.bars(3, 0), NONE);
        Edges.due("bars(0, 255), closed", x.bars(0, 255), NONE);
    }

    // ---- 20 fund

    private static void fundRefused() {
        Edges.says(20, "OUTSIDE: the night -1 to m less 1.");
        for (int m = 1; m <= 7; m++) {
            int nights = m;
            Edges.range(Edges::rich, "fund, night of " + m, (x, v) -> x.fund(9, nights, v), -1, m - 1, OUTSIDE);
        }
        Edges.says(0, "a FUND of breaths (0 to 40) for m nights (1 to 7)");
        Edges.range(Edges::rich, "fund, breaths", (x, v) -> x.fund(v, 7, 6), 0, 40, OUTSIDE);
        Edges.range(Edges::rich, "fund, m", (x, v) -> x.fund(9, v, -1), 1, 7, OUTSIDE);
        Edges.range(Edges::rich, "fund, m and a night", (x, v) -> x.fund(9, v, 0), 1, 7, OUTSIDE);
        Edges.refused(Edges::rich, "fund(41, 8, 8)", x -> x.fund(41, 8, 8), OUTSIDE);
        Edges.refused(Edges::rich, "fund(0, 0, -1)", x -> x.fund(0, 0, -1), OUTSIDE);
    }

    private static void fund(TramGod x, int breaths, int m, int good, int... shares) {
        String call = "fund(" + breaths + ", " + m + ", ";
        Edges.due(call + "-1)", x.fund(breaths, m, -1), 10000 + good);
        for (int i = 0; i < shares.length; i++) Edges.due(call + i + ")", x.fund(breaths, m, i), shares[i]);
    }

    private static void smallAndLargeFunds() {
        Edges.says(0, "BREATHS a night at most, EACH at a STOP");
        fund(new TramGod(), 0, 1, 0, 0);
        fund(new TramGod(), 40, 7, 0, 0, 0, 0, 0, 0, 0, 0);
        TramGod x = needs(9);
        laws(x, 9, 9);
        fund(x, 0, 7, 0, 0, 0, 0, 0, 0, 0, 0);
        fund(x, 8, 7, 0, 0, 0, 0, 0, 0, 0, 0);
        fund(x, 9, 7, 9, 0, 0, 0, 0, 0, 0, 9);
        fund(x, 35, 7, 27, 0, 0, 0, 0, 9, 9, 9);
        fund(x, 36, 7, 36, 0, 0, 0, 9, 9, 9, 9);
        fund(x, 40, 7, 36, 0, 0, 0, 9, 9, 9, 9);
        fund(x, 40, 1, 9, 9);
        laws(x, 8, 9);
        fund(x, 40, 7, 0, 0, 0, 0, 0, 0, 0, 0);
        laws(x, 9, 8);
        fund(x, 40, 7, 0, 0, 0, 0, 0, 0, 0, 0);
        laws(x, 9, 9);
        x.close(0, true);
        fund(x, 40, 7, 0, 0, 0, 0, 0, 0, 0, 0);
        TramGod y = Edges.onLine("5");
        for (int p = 0; p < 8; p++) y.person(p, 0, 6, 9, -9, 0);
        fund(y, 7, 7, 504, 1, 1, 1, 1, 1, 1, 1);
        fund(y, 6, 7, 504 - 144, 0, 1, 1, 1, 1, 1, 1);
        fund(y, 0, 7, -504, 0, 0, 0, 0, 0, 0, 0);
        y.set(0, 0);
        fund(y, 40, 7, -504, 0, 0, 0, 0, 0, 0, 0);
    }

    private static void fundsAtSeveralStops() {
        Edges.says(0, "the most GOOD in all");
        // Four breaths at stop 1, of which it may hold two, and stop 0 the others; at stop 0 they do harm.
        TramGod x = Edges.onLine("50");
        x.person(0, 1, 9, 9, 0, 0);
        laws(x, 4, 2);
        fund(x, 4, 2, 9, 0, 4);
        fund(x, 3, 2, 0, 0, 0);
        fund(x, 8, 2, 18, 4, 4);
        laws(x, 4, 1);
        fund(x, 8, 2, 0, 0, 0);
        laws(x, 4, 2);
        x.person(1, 0, 7, -5, 0, 0);
        fund(x, 8, 2, 8, 4, 4);
        laws(x, 4, 4);
        fund(x, 8, 2, 18, 4, 4);
        // Six stops, the last of which alone needs nine.
        TramGod y = Edges.onLine("000000");
        y.person(0, 5, 9, 1, 0, 0);
        laws(y, 9, 2);
        fund(y, 40, 7, 4, 0, 0, 0, 9, 9, 9, 9);
        laws(y, 9, 1);
        fund(y, 40, 7, 0, 0, 0, 0, 0, 0, 0, 0);
    }

    private static void comingInNights() {
        Edges.says(0, "PEOPLE come in nights as told (bits of nights, all at first); who does not come counts for nothing then");
        TramGod x = Edges.onLine("5");
        x.person(0, 0, 6, 9, -9, 0);
        fund(x, 40, 7, 63, 1, 1, 1, 1, 1, 1, 1);
        x.nights(0, 0);
        fund(x, 40, 7, 0, 0, 0, 0, 0, 0, 0, 0);
        x.nights(0, 64);
        fund(x, 0, 6, 0, 0, 0, 0, 0, 0, 0);
        fund(x, 0, 7, -9, 0, 0, 0, 0, 0, 0, 0);
        fund(x, 1, 7, 9, 0, 0, 0, 0, 0, 0, 1);
        x.nights(0, 1);
        fund(x, 0, 1, -9, 0);
        fund(x, 1, 1, 9, 1);
        fund(x, 1, 7, 9, 1, 0, 0, 0, 0, 0, 0);
        x.leave(0);
        fund(x, 1, 7, 0, 0);
    }

    private static void fewestInTheFirstNight() {
        Edges.says(0, "how many breaths in a night by it (of several the fewest in the first night, then in the second, and so on)");
        TramGod x = needs(2);
        fund(x, 3, 3, 9, 0, 0, 2);
        fund(x, 4, 3, 18, 0, 2, 2);
        fund(x, 5, 3, 18, 0, 2, 2);
        fund(x, 6, 3, 27, 2, 2, 2);
        // The first night is worth more: what it spends, the second has not.
        TramGod z = needs(2);
        z.nights(0, 1);
        z.person(1, 0, 7, 3, 0, 0);
        z.nights(1, 2);
        fund(z, 1, 2, 0, 0, 0);
        fund(z, 2, 2, 9, 2, 0);
        fund(z, 3, 2, 9, 2, 0);
        fund(z, 4, 2, 12, 2, 2);
        // One breath is 1 of good, two are 2: as good in one night as in two, so the last ones spend it.
        TramGod y = Edges.onLine("5");
        y.person(0, 0, 6, 1, 0, 0);
        y.person(1, 0, 7, 1, 0, 0);
        fund(y, 2, 2, 2, 0, 2);
        fund(y, 3, 2, 3, 1, 2);
        fund(y, 3, 3, 3, 0, 1, 2);
        fund(y, 40, 2, 4, 2, 2);
    }

    // ---- 21 rival

    private static TramGod breaths(TramGod x, int v) {
        x.set(0, v);
        return x;
    }

    private static void rivalRefused() {
        Edges.says(21, "OUTSIDE; FULL: BREATHS are more than 5.");
        Edges.range(Edges::rich, "rival", TramGod::rival, 0, 2, OUTSIDE);
        for (int v = 6; v <= 9; v++) {
            int many = v;
            for (int what = 0; what < 3; what++) {
                int asked = what;
                Edges.refused(() -> breaths(Edges.rich(), many), "rival(" + what + "), BREATHS " + v, x -> x.rival(asked), FULL);
            }
            Edges.refused(() -> breaths(Edges.rich(), many), "rival(3), BREATHS " + v, x -> x.rival(3), OUTSIDE);
            Edges.refused(() -> breaths(Edges.rich(), many), "rival(-1), BREATHS " + v, x -> x.rival(-1), OUTSIDE);
        }
        for (int v = 0; v <= 5; v++) game(breaths(new TramGod(), v), 0, 0, NONE);
    }

    private static void game(TramGod x, int good, int others, int first) {
        Edges.due("rival(0)", x.rival(0), 1000 + good);
        Edges.due("rival(1)", x.rival(1), 1000 + others);
        Edges.due("rival(2)", x.rival(2), first);
    }

    private static void notPassed() {
        Edges.says(0, "each holds one more breath at some STOP (not CLOSED; EACH, BREATHS together not passed), or passes");
        // The god holds each breath himself, the rival passes in between.
        for (int need = 1; need <= 5; need++) {
            TramGod x = needs(need);
            laws(x, need, need);
            game(x, 9, 0, 0);
            laws(x, need, need - 1);
            game(x, 0, 0, NONE);
            laws(x, need - 1, need);
            game(x, 0, 0, NONE);
            laws(x, need, 9);
            x.close(0, true);
            game(x, 0, 0, NONE);
        }
        game(breaths(needs(6), 5), 0, 0, NONE);
    }

    private static void theLargestGame() {
        Edges.says(21, "FULL: BREATHS are more than 5.");
        // Six stops, five breaths, all of which the last stop needs; the rival does not care.
        TramGod x = Edges.onLine("000000");
        x.person(0, 5, 5, 9, 0, 0);
        game(breaths(x, 5), 9, 0, 0);
        game(breaths(x, 4), 0, 0, NONE);
        laws(x, 5, 1);
        game(x, 9, 0, 0);
        x.close(0, true);
        game(x, 9, 0, 1);
        x.close(1, true);
        game(x, 0, 0, NONE);
        laws(x, 5, 2);
        game(x, 9, 0, 2);
        // At stop 3 one breath is too much: the god must hold all five at 4 and 5, two at most at each.
        x.person(1, 3, 1, -9, 0, 0);
        game(x, 0, 0, NONE);
        laws(x, 5, 3);
        game(x, 9, 0, 4);
        x.close(4, true);
        game(x, 0, 0, NONE);
        laws(x, 5, 5);
        game(x, 9, 0, 5);
        laws(x, 5, 4);
        game(x, 0, 0, NONE);
    }

    private static void nothingCanBeHeld() {
        Edges.says(0, "it is over, when both pass one behind the other, or nothing can be held any more (it then counts as it is)");
        TramGod x = Edges.onLine("55");
        x.person(0, 0, 5, -3, 2, 4);
        x.person(1, 1, 11, 5, -6, 8);
        laws(x, 0, 9);
        game(x, -9, 4, NONE);
        laws(x, 5, 0);
        game(x, -9, 4, NONE);
        laws(x, 5, 9);
        x.close(0, true);
        x.close(1, true);
        game(x, -4, 0, NONE);
        TramGod y = Edges.onLine("5");
        y.person(0, 0, 5, -9, 9, -9);
        game(y, -9, -9, NONE);
    }

    private static void passingFirst() {
        Edges.says(0, "of several: passing first, then the least STOP");
        // Both want person 0 to ride: the god passes, the rival holds it all.
        TramGod x = Edges.onLine("55");
        x.person(0, 1, 15, 9, 0, 1);
        game(breaths(x, 5), 9, 1, NONE);
        game(breaths(x, 4), 0, 0, NONE);
        // The rival has nothing of it: the god holds, at the least stop.
        x.person(0, 1, 15, 9, 0, 0);
        game(breaths(x, 5), 9, 0, 0);
        x.close(0, true);
        game(breaths(x, 5), 0, 0, NONE);
        x.person(0, 1, 14, 9, 0, 0);
        game(breaths(x, 5), 9, 0, 1);
        // The rival loses by it: he spends one of five breaths where it is of no use.
        TramGod y = Edges.onLine("55");
        y.person(0, 0, 10, 9, 0, -1);
        game(breaths(y, 5), 0, 0, NONE);
        y.person(0, 0, 6, 9, 0, -1);
        game(breaths(y, 5), 9, -1, 0);
        game(breaths(y, 1), 9, -1, 0);
        // All eight: the least and the most that can come of it.
        for (int p = 0; p < 8; p++) y.person(p, 0, 6, 9, -9, -9);
        game(breaths(y, 1), 72, -72, 0);
        for (int p = 0; p < 8; p++) y.person(p, 0, 6, -9, 9, 9);
        game(breaths(y, 2), -72, 72, NONE);
        // One breath: he spends it behind, where nobody needs it.
        game(breaths(y, 1), 72, 0, 1);
    }

    public static void main(String[] args) {
        bestRefused();
        bestByAHoldThatCanBe();
        leastAndMostOfAll();
        firstByStops();
        oneMoreBreath();
        meantRefused();
        fewestTogether();
        barsRefused();
        whoBars();
        fundRefused();
        smallAndLargeFunds();
        fundsAtSeveralStops();
        comingInNights();
        fewestInTheFirstNight();
        rivalRefused();
        notPassed();
        theLargestGame();
        nothingCanBeHeld();
        passingFirst();
        Edges.end(16, 21);
    }
}
