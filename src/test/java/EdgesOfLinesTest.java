/** Boundary cases of the document, sentence by sentence: what holds for all calls, and promises 1 to 10. */
public final class EdgesOfLinesTest {
    private static final int UNKNOWN = Edges.UNKNOWN, OUTSIDE = Edges.OUTSIDE, STATE = Edges.STATE;
    private static final int FULL = Edges.FULL, NO = Edges.NO, NONE = Edges.NONE;

    private static TramGod onLine(String seconds) {
        return Edges.onLine(seconds);
    }

    private static TramGod padOf(String signs) {
        return Edges.text(new TramGod(), signs);
    }

    private static TramGod richPadOf(String signs) {
        return Edges.text(Edges.rich(), signs);
    }

    // ---- what holds for all calls

    private static void aSignChangesTheFault() {
        Edges.says(0, "They change nothing (a sign that is said changes what fault() tells).");
        TramGod x = padOf("123");
        Edges.due("fault(1)", x.fault(1), NONE);
        Edges.due("say('4')", x.say('4'), 4);
        Edges.due("fault(1) behind it", x.fault(1), 3);
        Edges.refused(() -> padOf("123"), "say(32)", y -> y.say(32), OUTSIDE);
        Edges.refused(() -> padOf("12345678901234567890"), "say('4')", y -> y.say('4'), FULL);
    }

    /** Calls that only tell or find something: asked once or twice, they leave all as it was. */
    private static void questionsChangeNothing() {
        Edges.says(0, "They change nothing");
        Edges.Call[] questions = {
            x -> x.fault(0), x -> x.fault(1), x -> x.judge(0), x -> x.riders(), x -> x.good(1), x -> x.leaves(3), x -> x.vain(),
            x -> x.best(-1), x -> x.best(2), x -> x.worth(), x -> x.meant(8, 1, 3), x -> x.bars(1, 8), x -> x.fund(40, 7, 6),
            x -> x.rival(2), x -> x.closing(2, 1), x -> x.held(-1, 0), x -> x.held(3, 1), x -> x.runs(3, 20, 10, 1),
            x -> x.mean(20, 10, 1), x -> x.waits(3, 20, 10, 1, 2), x -> x.year(9999, 99, 0), x -> x.told(95)};
        for (int i = 0; i < questions.length; i++) {
            TramGod asked = Edges.rich();
            long first = questions[i].on(asked);
            Edges.due("question " + i + " asked again", questions[i].on(asked), first);
            Edges.same("question " + i, asked, Edges.rich());
        }
    }

    /** The 512th call is the last whose answer is promised: it must be right still. */
    private static void theLastCall() {
        Edges.says(Edges.WHAT_IT_IS, "An object is used for at most 512 calls after it has been made");
        for (int kind = 0; kind < 4; kind++) {
            TramGod x = new TramGod();
            for (int call = 1; call < 512; call++) busy(x, call);
            switch (kind) {
                case 0: Edges.due("best(-1), the 512th call", x.best(-1), 1000); break;
                case 1: Edges.due("held(-1, 0), the 512th call", x.held(-1, 0), 35); break;
                case 2: Edges.due("rival(2), the 512th call", x.rival(2), NONE); break;
                default: Edges.due("fund(40, 7, -1), the 512th call", x.fund(40, 7, -1), 10000); break;
            }
        }
    }

    private static void busy(TramGod x, int call) {
        switch (call % 7) {
            case 0: x.image(call & 1); break;
            case 1: x.restore(0); break;
            case 2: x.fund(40, 7, 6); break;
            case 3: x.rival(0); break;
            case 4: x.wipe(); break;
            case 5: x.held(-1, 0); break;
            default: x.say('0' + call % 10); break;
        }
    }

    private static void setsAreBits() {
        Edges.says(0, "Sets are bits.");
        TramGod x = onLine("000000");
        for (int p = 0; p < 8; p++) x.person(p, p % 6, 0, 0, 0, 0);
        Edges.due("told(3), all eight", x.told(3), 255);
        for (int s = 0; s < 6; s++) Edges.due("close(" + s + ")", x.close(s, true), (2 << s) - 1);
        Edges.due("told(2), all six", x.told(2), 63);
        Edges.text(x, "000000");
        Edges.due("riders(), all closed", x.riders(), 0);
        for (int s = 0; s < 6; s++) x.close(s, false);
        Edges.due("riders(), none closed", x.riders(), 255);
    }

    // ---- 1 a new object

    private static void atFirst() {
        Edges.says(1, "Three STOPS, no PEOPLE.");
        TramGod x = new TramGod();
        Edges.due("told(1)", x.told(1), 3);
        Edges.due("told(3)", x.told(3), 0);
        for (int p = 0; p < 8; p++) Edges.due("leave(" + p + ")", x.leave(p), UNKNOWN);
        Edges.says(0, "(0 to 9; 5 at first)");
        for (int s = 0; s < 3; s++) Edges.due("told(" + (10 + s) + ")", x.told(10 + s), 5);
        Edges.due("told(13)", x.told(13), OUTSIDE);
        Edges.says(0, "A STOP that is CLOSED (none at first)");
        Edges.due("told(2)", x.told(2), 0);
        Edges.says(0, "PEOPLE 0 to 7, some of whom there are (none at first)");
        for (int p = 0; p < 8; p++) Edges.due("told(" + (20 + 10 * p) + ")", x.told(20 + 10 * p), OUTSIDE);
        Edges.says(0, "BREATHS (0 to 9 a night; 4 at first), EACH (0 to 9 at a STOP; 9 at first).");
        Edges.due("told(4)", x.told(4), 4);
        Edges.due("told(5)", x.told(5), 9);
        Edges.says(1, "A new object");
        Edges.due("told(0)", x.told(0), 0);
        Edges.due("told(6)", x.told(6), 0);
        Edges.due("wipe()", x.wipe(), 0);
        Edges.due("forget()", x.forget(), 0);
        for (int k = 0; k < 2; k++) Edges.due("restore(" + k + ")", x.restore(k), STATE);
        TramGod y = new TramGod();
        Edges.rich();
        Edges.same("another object", y, new TramGod());
    }

    // ---- 2 say

    private static void signs() {
        Edges.says(0, "The PAD has up to 20 signs (codes 33 to 126).");
        Edges.range(Edges::rich, "say", TramGod::say, 33, 126, OUTSIDE);
        // Signs that a byte or a char would wrap around to '0'.
        for (int v : new int[] {0, -1, 48 + 256, 48 - 256, 48 + 65536, 48 - 65536}) {
            Edges.refused(Edges::rich, "say(" + v + ")", x -> x.say(v), OUTSIDE);
        }
        for (int sign = 33; sign <= 126; sign++) Edges.due("say(" + sign + ")", new TramGod().say(sign), 1);
    }

    private static void theTwentiethSign() {
        Edges.says(2, "A sign more: how many. OUTSIDE; FULL.");
        TramGod x = new TramGod();
        for (int i = 1; i <= 20; i++) Edges.due("say, sign " + i, x.say(i % 2 == 0 ? 33 : 126), i);
        Edges.due("say, sign 21", x.say(48), FULL);
        Edges.due("say, sign 21 once more", x.say(48), FULL);
        Edges.due("told(0)", x.told(0), 20);
        Edges.refused(() -> richPadOf("00000000000000000000"), "say, the pad full", y -> y.say(33), FULL);
        for (int v : new int[] {32, 127}) {
            Edges.refused(() -> richPadOf("00000000000000000000"), "say(" + v + "), the pad full", y -> y.say(v), OUTSIDE);
        }
        x.wipe();
        Edges.due("say behind wipe()", x.say(48), 1);
    }

    // ---- 3 wipe

    private static void nothingAndAllWiped() {
        Edges.says(3, "Signs go: how many there were.");
        TramGod x = new TramGod();
        Edges.due("wipe() of nothing", x.wipe(), 0);
        x.say(48);
        Edges.due("wipe() of one", x.wipe(), 1);
        Edges.due("wipe() twice", x.wipe(), 0);
        Edges.text(x, "12345678901234567890");
        Edges.due("wipe() of all", x.wipe(), 20);
        Edges.due("told(0)", x.told(0), 0);
        Edges.due("fault(0)", x.fault(0), 0);
        x.say('x');
        x.wipe();
        x.say('7');
        Edges.due("line(): the sign that went is not there", x.line(), 1);
        Edges.due("told(10)", x.told(10), 7);
    }

    // ---- 4 fault

    private static void faultOfLine(String signs, int due) {
        Edges.due("fault(0) of " + signs, padOf(signs).fault(0), due);
    }

    private static void faultOfHold(String seconds, String signs, int due) {
        Edges.due("fault(1) of " + signs + " on " + seconds, Edges.text(onLine(seconds), signs).fault(1), due);
    }

    private static void linesOfOneToSix() {
        Edges.says(0, "A LINE is a text of 1 to 6 digits (SECONDS)");
        faultOfLine("", 0);
        faultOfLine("0", NONE);
        faultOfLine("9", NONE);
        faultOfLine("999999", NONE);
        faultOfLine("0000000", 6);
        faultOfLine("01234567890123456789", 6);
        faultOfLine("/", 0);
        faultOfLine(":", 0);
        faultOfLine("!", 0);
        faultOfLine("~", 0);
        faultOfLine("12345/", 5);
        faultOfLine("12345:", 5);
        faultOfLine("123456~", 6);
        faultOfLine("-1", 0);
        faultOfLine("1.5", 1);
    }

    private static void holdsOfAllStops() {
        Edges.says(0, "a HOLD is a text of n digits: breaths at each STOP");
        faultOfHold("5", "", 0);
        faultOfHold("5", "9", NONE);
        faultOfHold("5", "00", 1);
        faultOfHold("5", "/", 0);
        faultOfHold("5", ":", 0);
        faultOfHold("555555", "", 0);
        faultOfHold("555555", "00000", 5);
        faultOfHold("555555", "999999", NONE);
        faultOfHold("555555", "0000000", 6);
        faultOfHold("555555", "00000/", 5);
        faultOfHold("555555", "00000:", 5);
        faultOfHold("55", "0", 1);
        faultOfHold("55", "00", NONE);
        faultOfHold("55", "000", 2);
        faultOfHold("55", "00000000000000000000", 2);
        TramGod x = padOf("999");
        x.set(0, 0);
        x.set(1, 0);
        Edges.due("fault(1): what can not be held is no fault", x.fault(1), NONE);
    }

    private static void firstOfSeveralFaults() {
        Edges.says(0, "the place (from 0 on) of the first sign that can not stand there, or the number of signs, if more must come");
        faultOfLine("1x3x5", 1);
        faultOfLine("12345x7", 5);
        faultOfLine("xxxxxxxxxxxxxxxxxxxx", 0);
        faultOfHold("555", "0x", 1);
        faultOfHold("555", "x", 0);
        faultOfHold("555", "00x0", 2);
        faultOfHold("555", "000x", 3);
        faultOfHold("555", "00", 2);
        Edges.says(4, "OUTSIDE: how.");
        Edges.range(Edges::rich, "fault", TramGod::fault, 0, 1, OUTSIDE);
    }

    // ---- 5 line

    private static void shortestAndLongestLine() {
        Edges.says(0, "STOPS 0 to n less 1 (n 1 to 6; 3 at first)");
        String digits = "098765";
        for (int n = 1; n <= 6; n++) {
            TramGod x = padOf(digits.substring(0, n));
            Edges.due("line() of " + n, x.line(), n);
            Edges.due("told(1)", x.told(1), n);
            for (int s = 0; s < n; s++) Edges.due("told(" + (10 + s) + ")", x.told(10 + s), digits.charAt(s) - '0');
            Edges.due("told(" + (10 + n) + ")", x.told(10 + n), OUTSIDE);
            Edges.due("close of the last", x.close(n - 1, true), 1 << n - 1);
            Edges.due("close behind the last", x.close(n, true), UNKNOWN);
        }
        TramGod y = onLine("123456");
        Edges.text(y, "7").line();
        Edges.due("told(10)", y.told(10), 7);
        Edges.due("told(11): the longer line is gone", y.told(11), OUTSIDE);
    }

    private static void lineRefused() {
        Edges.says(5, "NO: there is a FAULT (0).");
        for (String signs : new String[] {"", "0123456", "x", "12345:", "/12345", "01234567890123456789"}) {
            Edges.refused(() -> richPadOf(signs), "line() of " + signs, TramGod::line, NO);
        }
    }

    private static void whatALineTakesAlong() {
        Edges.says(5, "The LINE on the PAD is it (the PAD is empty then): STOPS.");
        TramGod x = richPadOf("5031");
        Edges.due("line()", x.line(), 4);
        Edges.due("told(0)", x.told(0), 0);
        Edges.due("wipe()", x.wipe(), 0);
        Edges.says(5, "No STOP is CLOSED; PEOPLE, SIGHTS go; BREATHS, EACH, IMAGES stay.");
        Edges.due("told(2)", x.told(2), 0);
        Edges.due("told(3)", x.told(3), 0);
        Edges.due("told(6)", x.told(6), 0);
        Edges.due("told(4)", x.told(4), 5);
        Edges.due("told(5)", x.told(5), 3);
        x.set(1, 0);
        Edges.due("held(-1, 0): no sight is left", x.held(-1, 0), 1);
        Edges.due("person: it is the first", x.person(7, 0, 0, 0, 0, 0), 1);
        Edges.due("restore(0)", x.restore(0), 1);
        Edges.due("told(3)", x.told(3), 1 + 2 + 4 + 8 + 128);
        Edges.due("told(2)", x.told(2), 4);
        Edges.due("restore(1)", x.restore(1), 1);
        Edges.due("told(1)", x.told(1), 2);
        Edges.due("told(3)", x.told(3), 32);
        Edges.due("told(6)", x.told(6), 1);
    }

    // ---- 6 close

    private static void closeRefused() {
        Edges.says(6, "A STOP is CLOSED (is true), or not: all that are, as bits. UNKNOWN.");
        Edges.range(Edges::rich, "close to", (x, v) -> x.close(v, true), 0, 3, UNKNOWN);
        Edges.range(Edges::rich, "close not", (x, v) -> x.close(v, false), 0, 3, UNKNOWN);
        Edges.range(() -> onLine("5"), "close of one", (x, v) -> x.close(v, true), 0, 0, UNKNOWN);
        Edges.range(() -> onLine("555555"), "close of six", (x, v) -> x.close(v, true), 0, 5, UNKNOWN);
        TramGod x = onLine("555555");
        Edges.due("close(5, false), it is not", x.close(5, false), 0);
        Edges.due("close(5, true)", x.close(5, true), 32);
        Edges.due("close(5, true), it is", x.close(5, true), 32);
        Edges.due("close(0, true)", x.close(0, true), 33);
        Edges.due("close(5, false)", x.close(5, false), 1);
        Edges.due("close(0, false)", x.close(0, false), 0);
    }

    private static void closedStopHoldsNothing() {
        Edges.says(0, "no breaths are held there (those that a HOLD tells count for nothing), nobody rides from it");
        TramGod x = onLine("90");
        x.person(0, 0, 0, 1, 0, 0);
        x.person(1, 1, 9, 1, 0, 0);
        x.close(0, true);
        x.set(0, 0);
        x.set(1, 0);
        Edges.text(x, "90");
        Edges.due("judge(0): nine at a closed stop", x.judge(0), NONE);
        Edges.due("leaves(0)", x.leaves(0), 9);
        Edges.due("leaves(1)", x.leaves(1), 8);
        Edges.due("riders()", x.riders(), 0);
        Edges.text(x, "01");
        Edges.due("judge(0): one at the other", x.judge(0), 1);
        x.close(0, false);
        Edges.text(x, "00");
        Edges.due("riders(), open", x.riders(), 3);
    }

    private static void aSecondSooner() {
        Edges.says(0, "from all STOPS behind it the tram LEAVES a second sooner for each CLOSED one whose SECONDS are above 0");
        TramGod x = Edges.text(onLine("011911"), "000000");
        int[] open = {0, 1, 2, 11, 12, 13};
        for (int s = 0; s < 6; s++) Edges.due("leaves(" + s + ")", x.leaves(s), open[s]);
        x.close(0, true);
        for (int s = 0; s < 6; s++) Edges.due("leaves(" + s + "), 0 closed, of 0 seconds", x.leaves(s), open[s]);
        x.close(1, true);
        int[] one = {0, 1, 1, 10, 11, 12};
        for (int s = 0; s < 6; s++) Edges.due("leaves(" + s + "), 1 closed, of 1 second", x.leaves(s), one[s]);
        for (int s = 2; s < 6; s++) x.close(s, true);
        int[] all = {0, 1, 1, 9, 9, 9};
        for (int s = 0; s < 6; s++) Edges.due("leaves(" + s + "), all closed", x.leaves(s), all[s]);
        TramGod y = Edges.text(onLine("55"), "00");
        y.close(1, true);
        Edges.due("leaves(1): itself closed, no sooner", y.leaves(1), 10);
        Edges.due("leaves(0): ahead of it, no sooner", y.leaves(0), 5);
    }

    // ---- 7 person

    private static void personRefused() {
        Edges.says(7, "UNKNOWN: the number, the STOP; OUTSIDE.");
        Edges.range(Edges::rich, "person, number", (x, v) -> x.person(v, 0, 0, 0, 0, 0), 0, 7, UNKNOWN);
        Edges.range(Edges::rich, "person, stop", (x, v) -> x.person(0, v, 0, 0, 0, 0), 0, 3, UNKNOWN);
        Edges.range(() -> onLine("0"), "person, the only stop", (x, v) -> x.person(0, v, 0, 0, 0, 0), 0, 0, UNKNOWN);
        Edges.range(() -> onLine("000000"), "person, six stops", (x, v) -> x.person(0, v, 0, 0, 0, 0), 0, 5, UNKNOWN);
        Edges.says(0, "each comes to a STOP at a second (COMES, 0 to 99)");
        Edges.range(Edges::rich, "person, comes", (x, v) -> x.person(0, 0, v, 0, 0, 0), 0, 99, OUTSIDE);
        Edges.says(0, "its RIDE, its WALK (-9 to 9 each) is the good that comes of it");
        Edges.range(Edges::rich, "person, ride", (x, v) -> x.person(0, 0, 0, v, 0, 0), -9, 9, OUTSIDE);
        Edges.range(Edges::rich, "person, walk", (x, v) -> x.person(0, 0, 0, 0, v, 0), -9, 9, OUTSIDE);
        Edges.says(0, "its OTHER (-9 to 9) what good the rival has, if it RIDES (else none)");
        Edges.range(Edges::rich, "person, other", (x, v) -> x.person(0, 0, 0, 0, 0, v), -9, 9, OUTSIDE);
        Edges.says(0, "the first of these that fits");
        Edges.refused(Edges::rich, "number and comes", x -> x.person(8, 0, 100, 0, 0, 0), UNKNOWN);
        Edges.refused(Edges::rich, "stop and other", x -> x.person(0, 4, 0, 0, 0, 10), UNKNOWN);
        Edges.refused(Edges::rich, "all of them", x -> x.person(-1, -1, -1, -10, -10, -10), UNKNOWN);
    }

    private static void firstAndLastPerson() {
        Edges.says(7, "A PERSON is there (or anew; it comes in all nights): how many are.");
        TramGod x = new TramGod();
        Edges.due("person 7", x.person(7, 2, 99, -9, 9, -9), 1);
        Edges.due("person 7 anew", x.person(7, 0, 0, 9, -9, 9), 1);
        int[] told = {0, 0, 19, 1, 19, 127};
        for (int i = 0; i < 6; i++) Edges.due("told(" + (90 + i) + ")", x.told(90 + i), told[i]);
        for (int p = 0; p < 7; p++) Edges.due("person " + p, x.person(p, 2, 99, -9, 9, -9), p + 2);
        int[] zero = {2, 99, 1, 19, 1, 127};
        for (int i = 0; i < 6; i++) Edges.due("told(" + (20 + i) + ")", x.told(20 + i), zero[i]);
        Edges.due("person 0 anew, all are there", x.person(0, 0, 0, 0, 0, 0), 8);
        x.nights(7, 0);
        Edges.due("person 7 anew", x.person(7, 0, 0, 0, 0, 0), 8);
        Edges.due("told(95): all nights", x.told(95), 127);
        x.seen(7, 0);
        x.person(7, 0, 0, 0, 0, 0);
        Edges.due("told(6): a sight of it stays", x.told(6), 1);
    }

    private static void noLaterThanItLeaves() {
        Edges.says(0, "RIDES, if that is no later than the tram LEAVES there");
        TramGod x = onLine("999999");
        x.set(0, 9);
        x.person(0, 5, 63, 0, 0, 0);
        x.person(1, 5, 64, 0, 0, 0);
        x.person(2, 5, 99, 0, 0, 0);
        x.person(3, 0, 9, 0, 0, 0);
        x.person(4, 0, 10, 0, 0, 0);
        x.person(5, 5, 0, 0, 0, 0);
        Edges.text(x, "000009");
        Edges.due("leaves(5), the latest of all", x.leaves(5), 63);
        Edges.due("riders()", x.riders(), 1 + 8 + 32);
        TramGod y = Edges.text(onLine("0"), "0");
        y.person(0, 0, 0, 0, 0, 0);
        y.person(1, 0, 1, 0, 0, 0);
        Edges.due("riders(), all at 0", y.riders(), 1);
    }

    // ---- 8 leave, 9 nights, 10 set

    private static void leaveRefused() {
        Edges.says(8, "UNKNOWN: there was none.");
        for (int v : new int[] {-1, 4, 5, 6, 8}) Edges.refused(Edges::rich, "leave(" + v + ")", x -> x.leave(v), UNKNOWN);
        for (int v : Edges.FAR) Edges.refused(Edges::rich, "leave(" + v + ")", x -> x.leave(v), UNKNOWN);
        TramGod x = Edges.rich();
        Edges.due("leave(0)", x.leave(0), 4);
        Edges.due("leave(0) twice", x.leave(0), UNKNOWN);
        Edges.due("leave(7)", x.leave(7), 3);
        x.leave(1);
        x.leave(2);
        Edges.due("leave(3), the last", x.leave(3), 0);
        Edges.due("leave(3) twice", x.leave(3), UNKNOWN);
    }

    private static void sightsOfOneWhoLeft() {
        Edges.says(8, "A PERSON is no more (SIGHTS of it stay; it rides by no HOLD then): how many are.");
        TramGod x = Edges.four();
        x.seen(2, 1);
        Edges.due("held(-1, 0), it rides by all holds", x.held(-1, 0), 35);
        x.leave(2);
        Edges.due("told(6)", x.told(6), 1);
        Edges.due("held(-1, 0), by none", x.held(-1, 0), 0);
        Edges.due("seen: of one who is no more", x.seen(2, 0), UNKNOWN);
        TramGod y = Edges.four();
        y.seen(2, 0);
        Edges.due("held(-1, 0)", y.held(-1, 0), 0);
        y.leave(2);
        Edges.due("held(-1, 0), it did not ride", y.held(-1, 0), 35);
        y.person(2, 2, 15, 0, 0, 0);
        Edges.due("held(-1, 0), it is there anew", y.held(-1, 0), 0);
    }

    private static void nightsRefused() {
        Edges.says(9, "In which nights a PERSON comes (bits 0 to 6): 1. UNKNOWN; OUTSIDE.");
        Edges.range(Edges::rich, "nights, set", (x, v) -> x.nights(7, v), 0, 127, OUTSIDE);
        for (int v : new int[] {-1, 4, 6, 8}) Edges.refused(Edges::rich, "nights of " + v, x -> x.nights(v, 1), UNKNOWN);
        for (int v : Edges.FAR) Edges.refused(Edges::rich, "nights of " + v, x -> x.nights(v, 1), UNKNOWN);
        Edges.refused(Edges::rich, "nights(4, 128)", x -> x.nights(4, 128), UNKNOWN);
        Edges.refused(Edges::rich, "nights(8, -1)", x -> x.nights(8, -1), UNKNOWN);
        TramGod x = Edges.rich();
        Edges.due("nights(7, 64)", x.nights(7, 64), 1);
        Edges.due("told(95)", x.told(95), 64);
        Edges.due("nights(7, 0)", x.nights(7, 0), 1);
        Edges.due("told(95)", x.told(95), 0);
        Edges.due("told(3): it is there, though it comes in no night", x.told(3) >> 7, 1);
    }

    private static void setRefused() {
        Edges.says(10, "0 BREATHS, 1 EACH: which it was. OUTSIDE.");
        Edges.range(Edges::rich, "set, which", (x, v) -> x.set(v, 5), 0, 1, OUTSIDE);
        Edges.range(Edges::rich, "set, BREATHS", (x, v) -> x.set(0, v), 0, 9, OUTSIDE);
        Edges.range(Edges::rich, "set, EACH", (x, v) -> x.set(1, v), 0, 9, OUTSIDE);
        Edges.refused(Edges::rich, "set(2, 10)", x -> x.set(2, 10), OUTSIDE);
        TramGod x = new TramGod();
        int[][] calls = {{0, 0, 4}, {0, 9, 0}, {0, 9, 9}, {1, 0, 9}, {1, 9, 0}, {1, 9, 9}};
        for (int[] c : calls) Edges.due("set(" + c[0] + ", " + c[1] + ")", x.set(c[0], c[1]), c[2]);
        x.set(0, 0);
        Edges.due("told(5): the other stays", x.told(5), 9);
        x.set(1, 1);
        Edges.due("told(4): the other stays", x.told(4), 0);
    }

    public static void main(String[] args) {
        aSignChangesTheFault();
        questionsChangeNothing();
        theLastCall();
        setsAreBits();
        atFirst();
        signs();
        theTwentiethSign();
        nothingAndAllWiped();
        linesOfOneToSix();
        holdsOfAllStops();
        firstOfSeveralFaults();
        shortestAndLongestLine();
        lineRefused();
        whatALineTakesAlong();
        closeRefused();
        closedStopHoldsNothing();
        aSecondSooner();
        personRefused();
        firstAndLastPerson();
        noLaterThanItLeaves();
        leaveRefused();
        sightsOfOneWhoLeft();
        nightsRefused();
        setRefused();
        Edges.end(0, 10);
    }
}
