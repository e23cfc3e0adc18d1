/** The document's promises one by one: ordinary inputs, edges, wrong inputs; the answers were worked by hand. */
public final class PromisesTest {
    private static final int UNKNOWN = -1, OUTSIDE = -2, STATE = -3, FULL = -4, NO = -5, NONE = -6;
    private static final long GONE = -1000000000000000000L;
    private static final int[] FAR = {Integer.MIN_VALUE, Integer.MAX_VALUE};

    private static int promise = 0;
    private static int checks = 0;
    private static int wrong = 0;

    private static void due(String call, long got, long want) {
        checks++;
        if (got != want) {
            wrong++;
            System.out.println("promise " + promise + ": " + call + " answered " + got + ", due is " + want);
        }
    }

    private static void text(TramGod x, String signs) {
        x.wipe();
        for (char c : signs.toCharArray()) x.say(c);
    }

    private static TramGod onLine(String seconds) {
        TramGod x = new TramGod();
        text(x, seconds);
        x.line();
        return x;
    }

    /** Stops of 5 seconds; 0 comes 7 to stop 0, 1 comes 11 to stop 1, 2 comes 15 to stop 2, 3 comes 17 there. */
    private static TramGod four() {
        TramGod x = new TramGod();
        x.person(0, 0, 7, 4, -1, 2);
        x.person(1, 1, 11, -5, 3, 6);
        x.person(2, 2, 15, 2, 0, -4);
        x.person(3, 2, 17, 9, -9, 1);
        return x;
    }

    private static void newObject() {
        TramGod x = new TramGod();
        int[] due = {0, 3, 0, 0, 4, 9, 0};
        for (int i = 0; i < due.length; i++) due("told(" + i + ")", x.told(i), due[i]);
        for (int s = 0; s < 3; s++) due("told(1" + s + ")", x.told(10 + s), 5);
        due("told(13)", x.told(13), OUTSIDE);
        due("told(20)", x.told(20), OUTSIDE);
        due("restore(0)", x.restore(0), STATE);
        due("held(-1, 0)", x.held(-1, 0), 35);
        due("best(-1)", x.best(-1), 1000);
    }

    private static void say() {
        TramGod x = new TramGod();
        due("say(32)", x.say(32), OUTSIDE);
        due("say(127)", x.say(127), OUTSIDE);
        for (int v : FAR) due("say(far)", x.say(v), OUTSIDE);
        due("say(33)", x.say(33), 1);
        due("say(126)", x.say(126), 2);
        for (int i = 3; i <= 20; i++) due("say(48)", x.say(48), i);
        due("say(48), the pad full", x.say(48), FULL);
        due("say(31), the pad full", x.say(31), OUTSIDE);
        due("told(0)", x.told(0), 20);
    }

    private static void wipe() {
        TramGod x = new TramGod();
        due("wipe()", x.wipe(), 0);
        text(x, "12345");
        due("wipe()", x.wipe(), 5);
        due("wipe()", x.wipe(), 0);
        due("say(49)", x.say(49), 1);
        text(x, "12345678901234567890");
        due("wipe()", x.wipe(), 20);
    }

    private static void fault() {
        TramGod x = new TramGod();
        String[] texts = {"", "1", "12", "123", "1234", "123456", "1234567", "x", "1x3", "12x", "123x", "123456x", "/", ":", "1/:"};
        int[] ofLine = {0, NONE, NONE, NONE, NONE, NONE, 6, 0, 1, 2, 3, 6, 0, 0, 1};
        int[] ofHold = {0, 1, 2, NONE, 3, 3, 3, 0, 1, 2, 3, 3, 0, 0, 1};
        for (int i = 0; i < texts.length; i++) {
            text(x, texts[i]);
            due("fault(0) of " + texts[i], x.fault(0), ofLine[i]);
            due("fault(1) of " + texts[i], x.fault(1), ofHold[i]);
        }
        x = onLine("1");
        due("fault(1), nothing said", x.fault(1), 0);
        text(x, "12");
        due("fault(1) of 12 at one stop", x.fault(1), 1);
        due("fault(-1)", x.fault(-1), OUTSIDE);
        due("fault(2)", x.fault(2), OUTSIDE);
        for (int v : FAR) due("fault(far)", x.fault(v), OUTSIDE);
    }

    private static void line() {
        TramGod x = four();
        due("line()", x.line(), NO);
        x.close(1, true);
        x.set(0, 7);
        x.set(1, 3);
        x.seen(0, 1);
        x.image(1);
        text(x, "12a");
        due("line() of 12a", x.line(), NO);
        text(x, "1234567");
        due("line() of seven", x.line(), NO);
        due("told(3)", x.told(3), 15);
        due("told(0)", x.told(0), 7);
        text(x, "9081");
        due("line()", x.line(), 4);
        int[] due = {0, 4, 0, 0, 7, 3, 0};
        for (int i = 0; i < due.length; i++) due("told(" + i + ")", x.told(i), due[i]);
        int[] seconds = {9, 0, 8, 1, OUTSIDE};
        for (int s = 0; s < 5; s++) due("told(1" + s + ")", x.told(10 + s), seconds[s]);
        due("told(20)", x.told(20), OUTSIDE);
        due("restore(1)", x.restore(1), 1);
        due("told(1)", x.told(1), 3);
        due("told(2)", x.told(2), 2);
        due("told(6)", x.told(6), 1);
        due("told(12)", x.told(12), 5);
        text(x, "7");
        due("line()", x.line(), 1);
        text(x, "123456");
        due("line()", x.line(), 6);
    }

    private static void close() {
        TramGod x = four();
        due("close(3, true)", x.close(3, true), UNKNOWN);
        due("close(-1, false)", x.close(-1, false), UNKNOWN);
        for (int v : FAR) due("close(far, true)", x.close(v, true), UNKNOWN);
        due("close(0, false)", x.close(0, false), 0);
        due("close(2, true)", x.close(2, true), 4);
        due("close(2, true)", x.close(2, true), 4);
        due("close(0, true)", x.close(0, true), 5);
        due("close(2, false)", x.close(2, false), 1);
        text(x, "020");
        due("leaves(0)", x.leaves(0), 5);
        due("leaves(1)", x.leaves(1), 11);
        due("leaves(2)", x.leaves(2), 16);
        due("riders()", x.riders(), 2 + 4);
        TramGod y = onLine("0505");
        y.close(0, true);
        y.close(1, true);
        text(y, "9900");
        due("leaves(0), closed", y.leaves(0), 0);
        due("leaves(1), behind a closed one of 0 seconds", y.leaves(1), 5);
        due("leaves(2), behind a closed one of 5 seconds", y.leaves(2), 4);
        due("leaves(3)", y.leaves(3), 9);
    }

    private static void person() {
        TramGod x = new TramGod();
        due("person", x.person(3, 2, 99, -9, 9, -9), 1);
        due("person", x.person(0, 0, 0, 9, -9, 9), 2);
        due("number -1", x.person(-1, 0, 0, 0, 0, 0), UNKNOWN);
        due("number 8", x.person(8, 0, 0, 0, 0, 0), UNKNOWN);
        due("stop -1", x.person(1, -1, 0, 0, 0, 0), UNKNOWN);
        due("stop 3", x.person(1, 3, 100, 0, 0, 0), UNKNOWN);
        due("comes -1", x.person(1, 0, -1, 0, 0, 0), OUTSIDE);
        due("comes 100", x.person(1, 0, 100, 0, 0, 0), OUTSIDE);
        for (int v : new int[] {-10, 10, FAR[0], FAR[1]}) {
            due("ride " + v, x.person(1, 0, 0, v, 0, 0), OUTSIDE);
            due("walk " + v, x.person(1, 0, 0, 0, v, 0), OUTSIDE);
            due("other " + v, x.person(1, 0, 0, 0, 0, v), OUTSIDE);
        }
        due("told(3)", x.told(3), 9);
        x.nights(3, 5);
        due("anew", x.person(3, 1, 12, 1, 2, 3), 2);
        int[] due = {1, 12, 11, 12, 13, 127};
        for (int i = 0; i < 6; i++) due("told(5" + i + ")", x.told(50 + i), due[i]);
        for (int p = 0; p < 8; p++) x.person(p, 0, 0, 0, 0, 0);
        due("the eighth anew", x.person(7, 0, 0, 0, 0, 0), 8);
    }

    private static void leave() {
        TramGod x = four();
        due("leave(4)", x.leave(4), UNKNOWN);
        due("leave(-1)", x.leave(-1), UNKNOWN);
        due("leave(8)", x.leave(8), UNKNOWN);
        for (int v : FAR) due("leave(far)", x.leave(v), UNKNOWN);
        x.seen(2, 1);
        due("held(-1, 0)", x.held(-1, 0), 35);
        due("leave(2)", x.leave(2), 3);
        due("leave(2)", x.leave(2), UNKNOWN);
        due("told(6)", x.told(6), 1);
        due("held(-1, 0), one seen to ride is gone", x.held(-1, 0), 0);
        x.person(2, 0, 9, 0, 0, 0);
        due("held(-1, 0), it is there anew", x.held(-1, 0), 1);
        x.forget();
        x.seen(2, 0);
        due("held(-1, 0)", x.held(-1, 0), 34);
        x.leave(2);
        due("held(-1, 0), one seen to walk is gone", x.held(-1, 0), 35);
        text(x, "000");
        due("riders()", x.riders(), 0);
    }

    private static void nights() {
        TramGod x = four();
        due("told(25)", x.told(25), 127);
        due("nights(0, 0)", x.nights(0, 0), 1);
        due("told(25)", x.told(25), 0);
        due("nights(0, 127)", x.nights(0, 127), 1);
        due("nights(4, 200)", x.nights(4, 200), UNKNOWN);
        due("nights(-1, 1)", x.nights(-1, 1), UNKNOWN);
        due("nights(8, 1)", x.nights(8, 1), UNKNOWN);
        due("nights(0, 128)", x.nights(0, 128), OUTSIDE);
        due("nights(0, -1)", x.nights(0, -1), OUTSIDE);
        due("told(25)", x.told(25), 127);
        x.nights(0, 0);
        text(x, "200");
        due("riders() asks for no nights", x.riders(), 15);
    }

    private static void set() {
        TramGod x = new TramGod();
        due("set(0, 9)", x.set(0, 9), 4);
        due("set(0, 0)", x.set(0, 0), 9);
        due("set(1, 0)", x.set(1, 0), 9);
        due("set(1, 6)", x.set(1, 6), 0);
        int[][] odd = {{-1, 0}, {2, 0}, {0, -1}, {0, 10}, {1, -1}, {1, 10}, {FAR[0], 1}, {1, FAR[1]}};
        for (int[] o : odd) due("set(" + o[0] + ", " + o[1] + ")", x.set(o[0], o[1]), OUTSIDE);
        due("told(4)", x.told(4), 0);
        due("told(5)", x.told(5), 6);
    }

    private static void judged(TramGod x, String hold, int stop, int why) {
        text(x, hold);
        due("judge(0) of " + hold, x.judge(0), stop);
        due("judge(1) of " + hold, x.judge(1), why);
    }

    private static void judge() {
        TramGod x = new TramGod();
        due("judge(2), a fault", x.judge(2), OUTSIDE);
        due("judge(-1)", x.judge(-1), OUTSIDE);
        judged(x, "", NO, NO);
        judged(x, "22", NO, NO);
        judged(x, "0000", NO, NO);
        judged(x, "0x0", NO, NO);
        judged(x, "400", NONE, NONE);
        judged(x, "121", NONE, NONE);
        judged(x, "500", 0, 2);
        judged(x, "230", 1, 2);
        judged(x, "131", 2, 2);
        x.set(1, 2);
        judged(x, "913", 0, 1);
        judged(x, "223", 2, 1);
        judged(x, "222", 2, 2);
        judged(x, "033", 1, 1);
        x.close(1, true);
        judged(x, "190", NONE, NONE);
        judged(x, "193", 2, 1);
        x.set(1, 9);
        judged(x, "194", 2, 2);
        x.set(0, 0);
        judged(x, "090", NONE, NONE);
    }

    private static void riders() {
        TramGod x = four();
        due("riders()", x.riders(), NO);
        String[] holds = {"000", "200", "100", "010", "001", "002", "110", "011"};
        int[] who = {4, 15, 2 + 4, 2 + 4, 4, 4 + 8, 2 + 4 + 8, 2 + 4 + 8};
        for (int i = 0; i < holds.length; i++) {
            text(x, holds[i]);
            due("riders() of " + holds[i], x.riders(), who[i]);
        }
        text(x, "050");
        due("riders() of too much", x.riders(), NO);
        text(x, "040");
        x.set(1, 3);
        due("riders() of too much at a stop", x.riders(), NO);
        x.close(1, true);
        due("riders(), the hold at a closed stop", x.riders(), 0);
        text(x, "002");
        due("riders(), closed and sooner", x.riders(), 4);
    }

    private static void good() {
        TramGod x = four();
        due("good(0)", x.good(0), NO);
        due("good(2)", x.good(2), OUTSIDE);
        due("good(-1)", x.good(-1), OUTSIDE);
        text(x, "000");
        due("good(0)", x.good(0), 1000 - 1 + 3 + 2 - 9);
        due("good(1)", x.good(1), 1000 - 4);
        text(x, "200");
        due("good(0)", x.good(0), 1000 + 4 - 5 + 2 + 9);
        due("good(1)", x.good(1), 1000 + 2 + 6 - 4 + 1);
        x.close(2, true);
        due("good(0)", x.good(0), 1000 + 4 - 5 + 0 - 9);
        due("good(1)", x.good(1), 1000 + 2 + 6);
        text(x, "230");
        due("good(0), too much", x.good(0), NO);
    }

    private static void leaves() {
        TramGod x = onLine("3090");
        due("leaves(4)", x.leaves(4), UNKNOWN);
        due("leaves(-1)", x.leaves(-1), UNKNOWN);
        due("leaves(0)", x.leaves(0), NO);
        text(x, "1021");
        int[] when = {4, 4, 15, 16};
        for (int s = 0; s < 4; s++) due("leaves(" + s + ")", x.leaves(s), when[s]);
        x.close(0, true);
        when = new int[] {3, 2, 13, 14};
        for (int s = 0; s < 4; s++) due("leaves(" + s + "), 0 closed", x.leaves(s), when[s]);
        x.close(1, true);
        due("leaves(3), a closed one of no seconds", x.leaves(3), 14);
        x.close(2, true);
        due("leaves(2), itself closed", x.leaves(2), 11);
        due("leaves(3)", x.leaves(3), 11);
        text(x, "0005");
        due("leaves(3), too much", x.leaves(3), NO);
    }

    private static void vain() {
        TramGod x = four();
        due("vain()", x.vain(), NO);
        text(x, "000");
        due("vain() of nothing", x.vain(), NONE);
        text(x, "200");
        due("vain() of 200", x.vain(), NONE);
        text(x, "101");
        due("vain() of 101", x.vain(), NONE);
        text(x, "210");
        due("vain() of 210", x.vain(), 1);
        text(x, "301");
        due("vain() of 301", x.vain(), 2);
        text(x, "001");
        due("vain() of 001", x.vain(), 2);
        x.close(0, true);
        text(x, "900");
        due("vain(), held at a closed stop alone", x.vain(), NONE);
        text(x, "901");
        due("vain(), what is held makes up for the closed stop", x.vain(), NONE);
        text(x, "050");
        due("vain(), too much", x.vain(), NO);
    }

    private static void best() {
        TramGod x = four();
        due("best(3)", x.best(3), UNKNOWN);
        due("best(-2)", x.best(-2), UNKNOWN);
        for (int v : FAR) due("best(far)", x.best(v), UNKNOWN);
        due("best(-1)", x.best(-1), 1000 - 1 + 3 + 2 + 9);
        due("best(0)", x.best(0), 0);
        due("best(1)", x.best(1), 0);
        due("best(2)", x.best(2), 2);
        x.set(1, 1);
        due("best(-1), one at a stop", x.best(-1), 1000 - 1 - 5 + 2 + 9);
        due("best(0)", x.best(0), 0);
        due("best(1)", x.best(1), 1);
        due("best(2)", x.best(2), 1);
        x.set(1, 9);
        x.set(0, 1);
        due("best(-1), one breath", x.best(-1), 1000 - 1 + 3 + 2 - 9);
        due("best(2), in vain", x.best(2), 0);
        x.set(0, 4);
        x.close(2, true);
        due("best(-1), 2 closed", x.best(-1), 1000 - 1 + 3 + 0 - 9);
        x.close(1, true);
        due("best(-1), 1, 2 closed", x.best(-1), 1000 + 4 + 3 + 0 - 9);
        due("best(0)", x.best(0), 2);
        due("best(1)", x.best(1), 0);
    }

    private static void worth() {
        TramGod x = four();
        due("worth()", x.worth(), 0);
        x.set(0, 1);
        due("worth() of the second", x.worth(), 18);
        x.set(0, 0);
        due("worth() of the first", x.worth(), 0);
        due("told(4) stays", x.told(4), 0);
        TramGod y = onLine("00");
        y.person(0, 1, 10, 7, 0, 0);
        y.set(0, 9);
        due("worth() of the tenth", y.worth(), 7);
        y.set(1, 4);
        due("worth(), four at a stop", y.worth(), 0);
        y.close(0, true);
        y.set(1, 9);
        due("worth(), nine at one stop", y.worth(), 0);
    }

    private static void meant() {
        TramGod x = four();
        due("meant(0, 0, -1)", x.meant(0, 0, -1), 0);
        due("meant(8, 2, -1)", x.meant(8, 2, -1), 2);
        due("meant(8, 2, 2)", x.meant(8, 2, 2), 2);
        due("meant(8, 2, 0)", x.meant(8, 2, 0), 0);
        due("meant(10, 1, -1)", x.meant(10, 1, -1), 2);
        due("meant(10, 1, 0)", x.meant(10, 1, 0), 0);
        due("meant(10, 1, 1)", x.meant(10, 1, 1), 1);
        due("meant(10, 1, 2)", x.meant(10, 1, 2), 1);
        due("meant(1, 2, -1)", x.meant(1, 2, -1), NONE);
        due("meant(1, 2, 1)", x.meant(1, 2, 1), NONE);
        due("meant(0, 4, -1)", x.meant(0, 4, -1), NONE);
        due("in both", x.meant(3, 2, -1), OUTSIDE);
        due("no such person", x.meant(16, 0, 0), OUTSIDE);
        due("no such person", x.meant(0, 256, 0), OUTSIDE);
        due("below 0", x.meant(-1, 0, 0), OUTSIDE);
        due("below 0", x.meant(0, FAR[0], 0), OUTSIDE);
        due("stop 3, in both", x.meant(3, 2, 3), UNKNOWN);
        due("stop -2", x.meant(0, 0, -2), UNKNOWN);
        x.set(0, 1);
        due("meant(8, 0, -1), one breath", x.meant(8, 0, -1), NONE);
        x.set(0, 4);
        x.close(2, true);
        due("meant(0, 4, -1), 2 closed", x.meant(0, 4, -1), 0);
        due("meant(8, 0, -1), 2 closed", x.meant(8, 0, -1), NONE);
    }

    private static void bars() {
        TramGod x = four();
        due("bars(8, 2)", x.bars(8, 2), NONE);
        due("bars(1, 2)", x.bars(1, 2), 0);
        due("bars(9, 2)", x.bars(9, 2), 0);
        due("bars(8, 4)", x.bars(8, 4), 2);
        due("bars(1, 6), two of them", x.bars(1, 6), NONE);
        due("bars(0, 4)", x.bars(0, 4), 2);
        due("bars(0, 0)", x.bars(0, 0), NONE);
        due("in both", x.bars(1, 1), OUTSIDE);
        due("no such person", x.bars(16, 0), OUTSIDE);
        due("below 0", x.bars(0, -1), OUTSIDE);
        x.set(0, 1);
        due("bars(10, 0), one breath", x.bars(10, 0), 3);
    }

    private static void fund() {
        TramGod x = four();
        int none = -5;
        int two = 13;
        due("fund(0, 1, -1)", x.fund(0, 1, -1), 10000 + none);
        due("fund(1, 1, -1)", x.fund(1, 1, -1), 10000 + none);
        due("fund(1, 1, 0)", x.fund(1, 1, 0), 0);
        due("fund(40, 7, -1)", x.fund(40, 7, -1), 10000 + 7 * two);
        due("fund(40, 7, 6)", x.fund(40, 7, 6), 2);
        due("fund(5, 4, -1)", x.fund(5, 4, -1), 10000 + 2 * two + 2 * none);
        int[] shares = {0, 0, 2, 2};
        for (int i = 0; i < 4; i++) due("fund(5, 4, " + i + ")", x.fund(5, 4, i), shares[i]);
        x.nights(3, 1);
        due("fund(5, 4, -1), 3 comes once", x.fund(5, 4, -1), 10000 + two + 3 * 4);
        due("fund(5, 4, 0)", x.fund(5, 4, 0), 2);
        due("fund(5, 4, 3)", x.fund(5, 4, 3), 0);
        x.set(0, 1);
        due("fund(40, 2, -1), one a night", x.fund(40, 2, -1), 10000 + none + 4);
        due("fund(41, 1, 0)", x.fund(41, 1, 0), OUTSIDE);
        due("fund(-1, 1, 0)", x.fund(-1, 1, 0), OUTSIDE);
        due("fund(1, 0, -1)", x.fund(1, 0, -1), OUTSIDE);
        due("fund(1, 8, -1)", x.fund(1, 8, -1), OUTSIDE);
        due("fund(1, 3, 3)", x.fund(1, 3, 3), OUTSIDE);
        due("fund(1, 3, -2)", x.fund(1, 3, -2), OUTSIDE);
        for (int v : FAR) due("fund(1, far, -1)", x.fund(1, v, -1), OUTSIDE);
        TramGod y = onLine("5");
        y.person(0, 0, 14, 5, -5, 0);
        y.set(0, 9);
        due("fund(20, 3, -1)", y.fund(20, 3, -1), 10005);
        due("fund(20, 3, 0)", y.fund(20, 3, 0), 0);
        due("fund(20, 3, 1)", y.fund(20, 3, 1), 9);
        y.set(1, 8);
        due("fund(20, 3, -1), eight at a stop", y.fund(20, 3, -1), 9985);
    }

    private static void game(TramGod x, int good, int others, int first) {
        due("rival(0)", x.rival(0), 1000 + good);
        due("rival(1)", x.rival(1), 1000 + others);
        due("rival(2)", x.rival(2), first);
    }

    private static void rival() {
        TramGod x = new TramGod();
        due("rival(3)", x.rival(3), OUTSIDE);
        due("rival(-1)", x.rival(-1), OUTSIDE);
        game(x, 0, 0, NONE);
        x.set(0, 6);
        due("rival(2), six breaths", x.rival(2), FULL);
        due("rival(3), six breaths", x.rival(3), OUTSIDE);
        x.set(0, 5);
        game(x, 0, 0, NONE);
        // Both want 0 to ride by one breath: the god waits for the rival to spend it.
        x.person(0, 1, 11, 3, 0, 2);
        game(x, 3, 2, NONE);
        // The rival has nothing of it: the god must hold it himself, at the least stop that helps.
        x.person(0, 1, 11, 3, 0, 0);
        game(x, 3, 0, 0);
        // Stop 1 is left a second sooner: it takes two breaths, the rival passes between them.
        x.close(0, true);
        game(x, 3, 0, 1);
        x.set(0, 1);
        game(x, 0, 0, NONE);
        x.set(0, 5);
        x.set(1, 1);
        game(x, 0, 0, NONE);
        x.set(1, 9);
        x.close(1, true);
        game(x, 0, 0, NONE);
        x.close(2, true);
        game(x, 0, 0, NONE);
        // One breath in all: he who wants 1 to walk can not hinder it but by spending the breath elsewhere.
        TramGod y = onLine("55");
        y.set(0, 1);
        y.person(0, 0, 6, -4, 0, 3);
        game(y, 0, 0, 1);
        y.set(1, 0);
        game(y, 0, 0, NONE);
        y.set(1, 9);
        y.set(0, 0);
        game(y, 0, 0, NONE);
        // One at a stop: what the rival holds at 1 leaves room at 0, so that the god may wait.
        y.set(0, 2);
        y.set(1, 1);
        y.person(0, 1, 11, 0, 0, 5);
        y.person(1, 0, 6, 3, 0, -1);
        game(y, 3, 4, NONE);
    }

    private static void closing() {
        TramGod x = four();
        due("closing(0, 0)", x.closing(0, 0), 995);
        due("closing(0, 1)", x.closing(0, 1), 0);
        due("closing(1, 0): 2 misses it by a second, or has no stop", x.closing(1, 0), 993);
        due("closing(1, 1)", x.closing(1, 1), 1);
        due("closing(3, 0)", x.closing(3, 0), 1000 - 1 + 3 + 0 - 9);
        due("closing(3, 1)", x.closing(3, 1), 7);
        due("closing(4, 0)", x.closing(4, 0), NONE);
        due("closing(6, 1)", x.closing(6, 1), NONE);
        due("closing(7, 0)", x.closing(7, 0), OUTSIDE);
        due("closing(-1, 0)", x.closing(-1, 0), OUTSIDE);
        due("closing(1, 2)", x.closing(1, 2), OUTSIDE);
        due("closing(7, 2)", x.closing(7, 2), OUTSIDE);
        x.close(0, true);
        due("closing(0, 0), 0 closed", x.closing(0, 0), 993);
        due("closing(2, 1)", x.closing(2, 1), 6);
        due("closing(3, 1)", x.closing(3, 1), NONE);
        due("told(2) stays", x.told(2), 1);
        closingOfSeveral();
    }

    private static void closingOfSeveral() {
        TramGod x = onLine("5052");
        x.person(0, 0, 5, 9, 0, 0);
        x.person(1, 3, 11, -7, 0, 0);
        // Leaves 5, 5, 10, 12: closing 2 or 0 makes it 11 at stop 3, where 1 still rides; closing 3 bars it.
        due("closing(0, 0)", x.closing(0, 0), 1002);
        due("closing(1, 0)", x.closing(1, 0), 1009);
        due("closing(1, 1)", x.closing(1, 1), 8);
        due("closing(2, 0)", x.closing(2, 0), 1009);
        due("closing(2, 1)", x.closing(2, 1), 2 + 8);
        x.person(1, 3, 12, -7, 0, 0);
        due("closing(1, 1), a second later", x.closing(1, 1), 4);
        due("closing(2, 1)", x.closing(2, 1), 2 + 4);
        due("closing(4, 0)", x.closing(4, 0), 1000);
        x.close(2, true);
        due("closing(0, 0), 2 closed", x.closing(0, 0), 1009);
        due("closing(1, 1), 2 closed", x.closing(1, 1), 2);
    }

    private static void seen() {
        TramGod x = four();
        due("seen(4, 1)", x.seen(4, 1), UNKNOWN);
        due("seen(8, 2)", x.seen(8, 2), UNKNOWN);
        due("seen(-1, 0)", x.seen(-1, 0), UNKNOWN);
        due("seen(0, 2)", x.seen(0, 2), OUTSIDE);
        due("seen(0, -1)", x.seen(0, -1), OUTSIDE);
        for (int i = 1; i <= 8; i++) due("seen", x.seen(1, 1), i);
        due("seen, full", x.seen(1, 1), FULL);
        due("seen(1, 2), full", x.seen(1, 2), OUTSIDE);
        due("seen(5, 2), full", x.seen(5, 2), UNKNOWN);
        due("told(6)", x.told(6), 8);
    }

    private static void forget() {
        TramGod x = four();
        due("forget()", x.forget(), 0);
        x.seen(0, 1);
        x.seen(0, 0);
        due("held(-1, 0), both", x.held(-1, 0), 0);
        due("forget()", x.forget(), 2);
        due("told(6)", x.told(6), 0);
        due("held(-1, 0)", x.held(-1, 0), 35);
        due("forget()", x.forget(), 0);
    }

    private static void held() {
        TramGod x = four();
        x.set(0, 2);
        due("held(-1, 0)", x.held(-1, 0), 10);
        due("held(-1, 1)", x.held(-1, 1), 0);
        due("held(2, 1)", x.held(2, 1), 2);
        x.seen(3, 1);
        due("held(-1, 0), 3 rode", x.held(-1, 0), 6);
        due("held(-1, 1)", x.held(-1, 1), 2);
        x.seen(1, 1);
        x.seen(0, 0);
        due("held(-1, 0), 1 rode, 0 did not", x.held(-1, 0), 4);
        int[] least = {0, 0, 0};
        int[] greatest = {1, 2, 1};
        for (int s = 0; s < 3; s++) {
            due("held(" + s + ", 0)", x.held(s, 0), least[s]);
            due("held(" + s + ", 1)", x.held(s, 1), greatest[s]);
        }
        x.close(0, true);
        due("held(-1, 0), 0 closed", x.held(-1, 0), 0);
        due("held(-1, 1)", x.held(-1, 1), NONE);
        due("held(1, 0)", x.held(1, 0), NONE);
        due("held(1, 1)", x.held(1, 1), NONE);
        x.set(0, 3);
        due("held(-1, 0), three breaths", x.held(-1, 0), 2);
        due("held(1, 0), sure", x.held(1, 0), 2);
        due("held(0, 1), closed", x.held(0, 1), 0);
        x.set(1, 2);
        due("held(-1, 0), two at a stop", x.held(-1, 0), 1);
        due("held(2, 0)", x.held(2, 0), 1);
        due("held(3, 2)", x.held(3, 2), UNKNOWN);
        due("held(-2, 0)", x.held(-2, 0), UNKNOWN);
        due("held(0, 2)", x.held(0, 2), OUTSIDE);
        due("held(-1, -1)", x.held(-1, -1), OUTSIDE);
        TramGod y = onLine("999999");
        y.set(0, 9);
        due("held(-1, 0), most of all", y.held(-1, 0), 5005);
    }

    private static void fraction(TramGod x, int person, int later, int t, long upper, long lower) {
        due("runs(" + person + ", " + later + ", " + t + ", 0)", x.runs(person, later, t, 0), upper);
        due("runs(" + person + ", " + later + ", " + t + ", 1)", x.runs(person, later, t, 1), lower);
    }

    private static void runs() {
        TramGod x = four();
        due("runs, no hold", x.runs(0, 1, 1, 0), GONE + NO);
        text(x, "201");
        fraction(x, 0, 1, 4, 3, 5);
        fraction(x, 0, 1, 10, 0, 1);
        fraction(x, 0, 1, 0, 1, 1);
        fraction(x, 1, 1, 4, 1, 1);
        fraction(x, 1, 2, 5, 1, 2);
        fraction(x, 2, 3, 7, 1, 1);
        fraction(x, 2, 4, 7, 3, 10);
        fraction(x, 2, 20, 1, 9, 10);
        x.close(2, true);
        fraction(x, 2, 1, 0, 0, 1);
        due("runs(4, 0, 1, 0)", x.runs(4, 0, 1, 0), GONE + UNKNOWN);
        due("runs(-1, 1, 1, 0)", x.runs(-1, 1, 1, 0), GONE + UNKNOWN);
        int[][] odd = {{0, 1, 0}, {21, 1, 0}, {1, -1, 0}, {1, 11, 0}, {1, 1, -1}, {1, 1, 2}, {FAR[1], 1, 0}};
        for (int[] o : odd) due("runs(0, " + o[0] + ", " + o[1] + ", " + o[2] + ")", x.runs(0, o[0], o[1], o[2]), GONE + OUTSIDE);
        text(x, "500");
        due("runs, too much held", x.runs(0, 1, 1, 0), GONE + NO);
        due("runs, outside first", x.runs(0, 0, 1, 0), GONE + OUTSIDE);
    }

    private static void means(TramGod x, int later, int t, long upper, long lower) {
        due("mean(" + later + ", " + t + ", 0)", x.mean(later, t, 0), upper);
        due("mean(" + later + ", " + t + ", 1)", x.mean(later, t, 1), lower);
    }

    private static void mean() {
        TramGod x = new TramGod();
        due("mean, no hold", x.mean(1, 1, 0), GONE + NO);
        text(x, "000");
        means(x, 1, 5, 0, 1);
        x = four();
        text(x, "000");
        means(x, 1, 0, -5, 1);
        means(x, 1, 1, -26, 5);
        text(x, "200");
        means(x, 1, 0, 10, 1);
        means(x, 1, 1, 77, 10);
        means(x, 20, 10, -7, 1);
        means(x, 20, 5, 3, 2);
        x.close(2, true);
        means(x, 1, 2, -11, 1);
        int[][] odd = {{0, 1, 0}, {21, 1, 0}, {1, -1, 0}, {1, 11, 0}, {1, 1, -1}, {1, 1, 2}, {FAR[0], 1, 0}};
        for (int[] o : odd) due("mean(" + o[0] + ", " + o[1] + ", " + o[2] + ")", x.mean(o[0], o[1], o[2]), GONE + OUTSIDE);
        text(x, "500");
        due("mean, too much held", x.mean(1, 1, 0), GONE + NO);
    }

    private static void waits() {
        TramGod x = four();
        due("waits(0, 1, 5, 0, 1)", x.waits(0, 1, 5, 0, 1), 0);
        due("waits(0, 1, 5, 1, 2)", x.waits(0, 1, 5, 1, 2), 2);
        due("waits(0, 1, 5, 51, 100)", x.waits(0, 1, 5, 51, 100), 3);
        due("waits(0, 2, 5, 1, 1)", x.waits(0, 2, 5, 1, 1), 4);
        due("waits(0, 3, 5, 1, 1)", x.waits(0, 3, 5, 1, 1), NONE);
        due("waits(0, 3, 0, 1, 1)", x.waits(0, 3, 0, 1, 1), 2);
        due("waits(0, 1, 10, 1, 100)", x.waits(0, 1, 10, 1, 100), 3);
        due("waits(2, 20, 3, 7, 10)", x.waits(2, 20, 3, 7, 10), 0);
        due("waits(2, 20, 3, 71, 100)", x.waits(2, 20, 3, 71, 100), NONE);
        x.set(1, 3);
        due("three at a stop", x.waits(0, 2, 5, 1, 1), NONE);
        x.close(1, true);
        due("a stop ahead is closed", x.waits(2, 20, 3, 7, 10), 1);
        due("its stop is closed", x.waits(1, 1, 1, 0, 1), STATE);
        due("its stop is closed, outside", x.waits(1, 1, 1, 2, 1), OUTSIDE);
        due("no such person", x.waits(4, 0, 1, 0, 1), UNKNOWN);
        int[][] odd = {{0, 1, 0, 1}, {21, 1, 0, 1}, {1, -1, 0, 1}, {1, 11, 0, 1}, {1, 1, 0, 0}, {1, 1, 0, 101},
            {1, 1, -1, 1}, {1, 1, 3, 2}, {1, 1, 0, FAR[1]}, {1, 1, FAR[0], 1}};
        for (int[] o : odd) {
            due("waits(0, " + o[0] + ", " + o[1] + ", " + o[2] + ", " + o[3] + ")", x.waits(0, o[0], o[1], o[2], o[3]), OUTSIDE);
        }
        due("b is 100", x.waits(0, 1, 0, 100, 100), 2);
    }

    private static void year() {
        TramGod x = four();
        due("year, no hold", x.year(1, 1, 0), NO);
        due("year(1, 1, 3), no hold", x.year(1, 1, 3), OUTSIDE);
        text(x, "200");
        // x = 75 * 1 + 74 = 149: bits 0, 2, 4, 7, nobody late: 0 and 2 ride.
        due("year(1, 1, 0)", x.year(1, 1, 0), 100000 + 4 + 2);
        due("year(1, 1, 1)", x.year(1, 1, 1), 2);
        due("year(1, 1, 2)", x.year(1, 1, 2), 0);
        // x = 11249: bits 0, 4, 5, 6, 7 of the low eight; 43 left over by 4: 3 seconds late, 0 walks.
        due("year(1, 2, 0)", x.year(1, 2, 0), 100000 + 4 + 2 - 1);
        due("year(1, 2, 1)", x.year(1, 2, 1), 2);
        due("year(1, 2, 2)", x.year(1, 2, 2), 1);
        // x = 74: bits 1, 3, 6: 1 and 3 ride.
        due("year(0, 1, 0)", x.year(0, 1, 0), 100000 - 5 + 9);
        x.nights(1, 0);
        due("year(0, 1, 0) asks for no nights", x.year(0, 1, 0), 100000 - 5 + 9);
        x.close(2, true);
        due("year(0, 1, 0), 2 closed", x.year(0, 1, 0), 100000 - 5 - 9);
        due("year(9999, 99, 2)", x.year(9999, 99, 2) >= 0 ? 1 : 0, 1);
        int[][] odd = {{-1, 1, 0}, {10000, 1, 0}, {0, 0, 0}, {0, 100, 0}, {0, 1, -1}, {0, 1, 3}, {FAR[1], 1, 0}};
        for (int[] o : odd) due("year(" + o[0] + ", " + o[1] + ", " + o[2] + ")", x.year(o[0], o[1], o[2]), OUTSIDE);
    }

    private static void image() {
        TramGod x = four();
        due("image(-1)", x.image(-1), OUTSIDE);
        due("image(2)", x.image(2), OUTSIDE);
        for (int v : FAR) due("image(far)", x.image(v), OUTSIDE);
        due("image(0)", x.image(0), 1);
        x.leave(0);
        due("image(0), again", x.image(0), 1);
        x.leave(1);
        x.restore(0);
        due("told(3)", x.told(3), 14);
        due("restore(1)", x.restore(1), STATE);
        due("image(1)", x.image(1), 1);
        due("restore(1)", x.restore(1), 1);
    }

    private static void restore() {
        TramGod x = four();
        due("restore(-1)", x.restore(-1), OUTSIDE);
        due("restore(2)", x.restore(2), OUTSIDE);
        due("restore(0)", x.restore(0), STATE);
        x.close(1, true);
        x.set(0, 7);
        x.set(1, 3);
        x.seen(3, 1);
        x.seen(1, 0);
        x.nights(2, 6);
        int many = x.held(-1, 0);
        text(x, "987");
        x.image(0);
        x.image(1);
        x.line();
        x.set(0, 1);
        x.set(1, 1);
        x.person(0, 2, 1, 1, 1, 1);
        text(x, "1234");
        due("restore(0)", x.restore(0), 1);
        int[] due = {4, 3, 2, 15, 7, 3, 2};
        for (int i = 0; i < due.length; i++) due("told(" + i + ")", x.told(i), due[i]);
        for (int s = 0; s < 3; s++) due("told(1" + s + ")", x.told(10 + s), 5);
        int[] two = {2, 15, 12, 10, 6, 6};
        for (int i = 0; i < 6; i++) due("told(4" + i + ")", x.told(40 + i), two[i]);
        due("held(-1, 0)", x.held(-1, 0), many);
        due("fault(1): the pad stays", x.fault(1), 3);
        x.person(2, 0, 1, 1, 1, 1);
        x.forget();
        due("restore(1)", x.restore(1), 1);
        due("told(41)", x.told(41), 15);
        due("held(-1, 0)", x.held(-1, 0), many);
        due("restore(1) twice", x.restore(1), 1);
    }

    private static void told() {
        TramGod x = onLine("0123");
        x.person(7, 3, 98, -9, 9, 0);
        x.person(0, 1, 2, 3, 4, 5);
        x.seen(7, 0);
        x.close(3, true);
        text(x, "??");
        int[] due = {2, 4, 8, 129, 4, 9, 1};
        for (int i = 0; i < due.length; i++) due("told(" + i + ")", x.told(i), due[i]);
        for (int s = 0; s < 4; s++) due("told(1" + s + ")", x.told(10 + s), s);
        int[] zero = {1, 2, 13, 14, 15, 127};
        int[] seven = {3, 98, 1, 19, 10, 127};
        for (int i = 0; i < 6; i++) {
            due("told(2" + i + ")", x.told(20 + i), zero[i]);
            due("told(9" + i + ")", x.told(90 + i), seven[i]);
        }
        int[] odd = {-1, 7, 8, 9, 14, 15, 16, 19, 26, 29, 30, 85, 96, 99, 100, 105, -20, FAR[0], FAR[1]};
        for (int o : odd) due("told(" + o + ")", x.told(o), OUTSIDE);
    }

    private static void all(int number) {
        promise = number;
        switch (number) {
            case 1: newObject(); break;
            case 2: say(); break;
            case 3: wipe(); break;
            case 4: fault(); break;
            case 5: line(); break;
            case 6: close(); break;
            case 7: person(); break;
            case 8: leave(); break;
            case 9: nights(); break;
            case 10: set(); break;
            case 11: judge(); break;
            case 12: riders(); break;
            case 13: good(); break;
            case 14: leaves(); break;
            case 15: vain(); break;
            case 16: best(); break;
            case 17: worth(); break;
            case 18: meant(); break;
            case 19: bars(); break;
            case 20: fund(); break;
            case 21: rival(); break;
            case 22: closing(); break;
            case 23: seen(); break;
            case 24: forget(); break;
            case 25: held(); break;
            case 26: runs(); break;
            case 27: mean(); break;
            case 28: waits(); break;
            case 29: year(); break;
            case 30: image(); break;
            case 31: restore(); break;
            default: told(); break;
        }
    }

    public static void main(String[] args) {
        for (int number = 1; number <= 32; number++) all(number);
        System.out.println(checks + " answers looked at, " + wrong + " not as due");
        if (wrong != 0) System.exit(1);
    }
}
