import java.io.IOException;
import java.nio.file.Files;
import java.nio.file.Path;
import java.util.ArrayList;
import java.util.List;
import java.util.Set;
import java.util.TreeSet;

/**
 * What the tests of boundary cases share: the sentence that is looked at (it must stand in the document so),
 * answers that are due, and refusals that must leave everything as it was.
 */
final class Edges {
    static final int UNKNOWN = -1, OUTSIDE = -2, STATE = -3, FULL = -4, NO = -5, NONE = -6;
    static final long GONE = -1000000000000000000L;
    /** Far outside, and numbers that a shift, a byte or a char would wrap around to a small one. */
    static final int[] FAR = {Integer.MIN_VALUE, Integer.MIN_VALUE + 1, Integer.MAX_VALUE, -32, 32, 33, 256, 65536};

    private static final Path DOCUMENT = Path.of("../shared/DOC.md");
    private static final int MOST_CALLS = 512;

    private static String document = "";
    private static String sentence = "";
    private static final Set<Integer> looked = new TreeSet<>();
    private static int sentences = 0;
    private static int checks = 0;
    private static int wrong = 0;

    interface Maker {
        TramGod make();
    }

    interface Call {
        long on(TramGod x);
    }

    interface CallOf {
        long on(TramGod x, int v);
    }

    private Edges() {
    }

    // ---- sentences and answers

    /** Stands for "What it is" where a promise's number is asked for; the Terms are 0. */
    static final int WHAT_IT_IS = -1;

    /** The sentence whose boundary the next answers look at, and the promise under which it stands. */
    static void says(int promise, String words) {
        sentence = "promise " + promise + ", \"" + words + "\"";
        looked.add(promise);
        sentences++;
        if (!section(promise).contains(words)) {
            fail("the document does not say so");
        }
    }

    private static String section(int promise) {
        if (document.isEmpty()) {
            document = readDocument();
        }
        String head = promise > 0 ? "## Promise " + promise + ":" : promise == 0 ? "## Terms" : "## What it is";
        int from = document.indexOf(head);
        if (from < 0) {
            return "";
        }
        int to = document.indexOf("## ", from + 3);
        return document.substring(from, to < 0 ? document.length() : to);
    }

    private static String readDocument() {
        try {
            return Files.readString(DOCUMENT).replaceAll("\\s+", " ");
        } catch (IOException e) {
            return "it can not be read";
        }
    }

    private static void fail(String what) {
        wrong++;
        System.out.println(sentence + ": " + what);
    }

    static void due(String call, long got, long want) {
        checks++;
        if (got != want) {
            fail(call + " answered " + got + ", due is " + want);
        }
    }

    /** The end of a test: each of its promises must have had a sentence. */
    static void end(int first, int last) {
        for (int p = first; p <= last; p++) {
            if (!looked.contains(p)) {
                fail("no sentence of promise " + p + " was looked at");
            }
        }
        System.out.println(sentences + " sentences, " + checks + " answers looked at, " + wrong + " not as due");
        if (wrong != 0) {
            System.exit(1);
        }
    }

    // ---- refusals

    /** The call is refused, and then answers all that can be asked as an object that was never asked so. */
    static void refused(Maker maker, String name, Call call, long want) {
        TramGod asked = maker.make();
        TramGod other = maker.make();
        due(name, call.on(asked), want);
        same(name, asked, other);
    }

    /** Refused for the number behind the end, ahead of the first one and far away; taken for both ends. */
    static void range(Maker maker, String name, CallOf call, int least, int most, long refusal) {
        for (int v : new int[] {least, most}) {
            long got = call.on(maker.make(), v);
            due(name + " of " + v + " is taken", isRefusal(got) ? got : 0, 0);
        }
        refused(maker, name + " of " + (least - 1), x -> call.on(x, least - 1), refusal);
        refused(maker, name + " of " + (most + 1), x -> call.on(x, most + 1), refusal);
        for (int v : FAR) {
            if (v < least || v > most) {
                refused(maker, name + " of " + v, x -> call.on(x, v), refusal);
            }
        }
    }

    private static boolean isRefusal(long answer) {
        return answer <= UNKNOWN && answer >= NO || answer <= GONE + UNKNOWN && answer >= GONE + NO;
    }

    /** Both objects answer the same, whatever is asked. */
    static void same(String name, TramGod one, TramGod other) {
        List<String> a = everything(one);
        List<String> b = everything(other);
        checks++;
        for (int i = 0; i < a.size() && i < b.size(); i++) {
            if (!a.get(i).equals(b.get(i))) {
                fail(name + " changed what is answered: " + a.get(i) + ", was " + b.get(i));
                return;
            }
        }
    }

    /** All that can be asked; at the end the images and the pad are looked into, which changes the object. */
    private static List<String> everything(TramGod x) {
        List<String> all = new ArrayList<>();
        tell(all, x);
        askHolds(all, x);
        askBest(all, x);
        askSights(all, x);
        for (int k = 1; k >= 0; k--) {
            all.add("restore(" + k + ") " + x.restore(k));
            tell(all, x);
            all.add("held(-1, 0) " + x.held(-1, 0));
        }
        all.add("line() " + x.line());
        for (int what = 10; what < 16; what++) all.add("told(" + what + ") " + x.told(what));
        all.add("wipe() " + x.wipe());
        if (all.size() > MOST_CALLS - 100) fail("too many calls of one object: " + all.size());
        return all;
    }

    private static void tell(List<String> all, TramGod x) {
        for (int what = 0; what < 100; what++) {
            boolean told = what < 7 || what >= 10 && what < 16 || what >= 20 && what % 10 < 6;
            if (told) all.add("told(" + what + ") " + x.told(what));
        }
    }

    private static void askHolds(List<String> all, TramGod x) {
        for (int what = 0; what < 2; what++) {
            all.add("fault(" + what + ") " + x.fault(what));
            all.add("judge(" + what + ") " + x.judge(what));
            all.add("good(" + what + ") " + x.good(what));
        }
        for (int s = 0; s < 6; s++) all.add("leaves(" + s + ") " + x.leaves(s));
        all.add("riders() " + x.riders());
        all.add("vain() " + x.vain());
    }

    private static void askBest(List<String> all, TramGod x) {
        for (int s = -1; s < 6; s++) all.add("best(" + s + ") " + x.best(s));
        all.add("worth() " + x.worth());
        for (int p = 0; p < 8; p++) {
            all.add("meant(bit " + p + ") " + x.meant(1 << p, 0, -1));
            all.add("bars(bit " + p + ") " + x.bars(0, 1 << p));
        }
        for (int night = -1; night < 7; night++) all.add("fund(9, 7, " + night + ") " + x.fund(9, 7, night));
        for (int what = 0; what < 3; what++) all.add("rival(" + what + ") " + x.rival(what));
    }

    private static void askSights(List<String> all, TramGod x) {
        for (int what = 0; what < 2; what++) {
            all.add("closing(1, " + what + ") " + x.closing(1, what));
            all.add("mean(1, 3, " + what + ") " + x.mean(1, 3, what));
            for (int s = -1; s < 6; s++) all.add("held(" + s + ", " + what + ") " + x.held(s, what));
        }
        for (int p = 0; p < 8; p++) {
            all.add("runs(" + p + ") " + x.runs(p, 1, 3, 0));
            all.add("waits(" + p + ") " + x.waits(p, 1, 3, 1, 2));
        }
        for (int what = 0; what < 3; what++) all.add("year(7, 20, " + what + ") " + x.year(7, 20, what));
    }

    // ---- objects to ask

    static TramGod text(TramGod x, String signs) {
        x.wipe();
        for (char c : signs.toCharArray()) x.say(c);
        return x;
    }

    static TramGod onLine(String seconds) {
        TramGod x = text(new TramGod(), seconds);
        x.line();
        return x;
    }

    /** Three stops of 5 seconds: 0 comes 7 to stop 0, 1 comes 11 to stop 1, 2 and 3 come 15 and 17 to stop 2. */
    static TramGod four() {
        TramGod x = new TramGod();
        x.person(0, 0, 7, 4, -1, 2);
        x.person(1, 1, 11, -5, 3, 6);
        x.person(2, 2, 15, 2, 0, -4);
        x.person(3, 2, 17, 9, -9, 1);
        return x;
    }

    /** Four with a hold on the pad. */
    static TramGod fourBy(String hold) {
        return text(four(), hold);
    }

    /** An object in which each thing that can be kept is, and is not as at first; the hold on the pad can be. */
    static TramGod rich() {
        TramGod x = onLine("72");
        x.person(5, 1, 9, 1, 2, 3);
        x.seen(5, 1);
        x.set(0, 2);
        x.image(1);
        text(x, "5031").line();
        x.set(0, 5);
        x.set(1, 3);
        x.person(0, 0, 6, 4, -1, 2);
        x.person(1, 1, 7, -5, 3, 6);
        x.person(2, 3, 9, 2, 0, -4);
        x.person(3, 3, 11, 9, -9, 1);
        x.person(7, 2, 8, -3, 3, 5);
        x.close(2, true);
        x.nights(1, 85);
        x.nights(3, 3);
        x.image(0);
        x.close(2, false);
        x.close(1, true);
        x.seen(3, 1);
        x.seen(0, 0);
        return text(x, "0021");
    }

    /** As rich, but what is on the pad is no hold. */
    static TramGod richWithFault() {
        return text(rich(), "00x1");
    }

    /** As rich, but the hold on the pad can not be. */
    static TramGod richWithTooMuch() {
        return text(rich(), "3030");
    }
}
