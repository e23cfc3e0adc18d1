import java.util.ArrayList;
import java.util.Arrays;
import java.util.HashMap;
import java.util.List;
import java.util.Map;
import java.util.Random;

/**
 * Drawn runs of calls, answered by TramGod and by a model that goes through all holds one by one,
 * straight from the document's words. The draws have fixed seeds, so every run is the same.
 */
public final class PlainModelTest {
    private static final int UNKNOWN = -1, OUTSIDE = -2, STATE = -3, FULL = -4, NO = -5, NONE = -6;
    private static final long GONE = -1000000000000000000L;

    /** A person as told. */
    private static final class Person {
        int stop, comes, ride, walk, other;
        int nights = 127;

        Person copy() {
            Person q = new Person();
            q.stop = stop;
            q.comes = comes;
            q.ride = ride;
            q.walk = walk;
            q.other = other;
            q.nights = nights;
            return q;
        }
    }

    private static final class Kept {
        int[] seconds = {5, 5, 5};
        boolean[] closed = new boolean[3];
        int breaths = 4, each = 9;
        Person[] people = new Person[8];
        List<int[]> sights = new ArrayList<>();

        Kept copy() {
            Kept k = new Kept();
            k.seconds = seconds.clone();
            k.closed = closed.clone();
            k.breaths = breaths;
            k.each = each;
            for (int p = 0; p < 8; p++) {
                k.people[p] = people[p] == null ? null : people[p].copy();
            }
            k.sights.addAll(sights);
            return k;
        }
    }

    private static final class Model {
        Kept w = new Kept();
        Kept[] images = new Kept[2];
        StringBuilder pad = new StringBuilder();
        int gameFirst;

        int n() {
            return w.seconds.length;
        }

        boolean stop(int s) {
            return s >= 0 && s < n();
        }

        boolean there(int p) {
            return p >= 0 && p < 8 && w.people[p] != null;
        }

        int count() {
            return Integer.bitCount(peopleBits());
        }

        int peopleBits() {
            int bits = 0;
            for (int p = 0; p < 8; p++) {
                bits |= there(p) ? 1 << p : 0;
            }
            return bits;
        }

        int closedBits() {
            int bits = 0;
            for (int s = 0; s < n(); s++) {
                bits |= w.closed[s] ? 1 << s : 0;
            }
            return bits;
        }

        static boolean in(int v, int a, int b) {
            return a <= v && v <= b;
        }

        int say(int sign) {
            if (sign < 33 || sign > 126) return OUTSIDE;
            if (pad.length() == 20) return FULL;
            pad.append((char) sign);
            return pad.length();
        }

        int wipe() {
            int were = pad.length();
            pad.setLength(0);
            return were;
        }

        int fault(int how) {
            if (how != 0 && how != 1) return OUTSIDE;
            String text = pad.toString();
            String whole = how == 0 ? "[0-9]{1,6}" : "[0-9]{" + n() + "}";
            if (text.matches(whole)) return NONE;
            int most = how == 0 ? 6 : n();
            for (int i = 0; i < text.length(); i++) {
                if (!text.substring(0, i + 1).matches("[0-9]{1," + most + "}")) return i;
            }
            return text.length();
        }

        int line() {
            if (fault(0) != NONE) return NO;
            w.seconds = pad.chars().map(c -> c - '0').toArray();
            w.closed = new boolean[n()];
            w.people = new Person[8];
            w.sights.clear();
            wipe();
            return n();
        }

        int close(int s, boolean is) {
            if (!stop(s)) return UNKNOWN;
            w.closed[s] = is;
            return closedBits();
        }

        int person(int p, int s, int comes, int ride, int walk, int other) {
            if (!in(p, 0, 7) || !stop(s)) return UNKNOWN;
            if (!in(comes, 0, 99) || !in(ride, -9, 9) || !in(walk, -9, 9) || !in(other, -9, 9)) return OUTSIDE;
            Person q = new Person();
            q.stop = s;
            q.comes = comes;
            q.ride = ride;
            q.walk = walk;
            q.other = other;
            w.people[p] = q;
            return count();
        }

        int leave(int p) {
            if (!there(p)) return UNKNOWN;
            w.people[p] = null;
            return count();
        }

        int nights(int p, int set) {
            if (!there(p)) return UNKNOWN;
            if (!in(set, 0, 127)) return OUTSIDE;
            w.people[p].nights = set;
            return 1;
        }

        int set(int which, int v) {
            if (!in(which, 0, 1) || !in(v, 0, 9)) return OUTSIDE;
            int was = which == 0 ? w.breaths : w.each;
            if (which == 0) w.breaths = v; else w.each = v;
            return was;
        }

        /** The hold on the pad; null: a fault. */
        int[] padHold() {
            if (fault(1) != NONE) return null;
            int[] h = pad.chars().map(c -> c - '0').toArray();
            for (int s = 0; s < n(); s++) {
                if (w.closed[s]) h[s] = 0;
            }
            return h;
        }

        /** {stop, why} or null. */
        int[] barred(int[] h) {
            for (int s = 0; s < n(); s++) {
                if (h[s] > w.each) return new int[] {s, 1};
            }
            for (int s = 0; s < n(); s++) {
                if (Arrays.stream(h, 0, s + 1).sum() > w.breaths) return new int[] {s, 2};
            }
            return null;
        }

        int judge(int what) {
            if (!in(what, 0, 1)) return OUTSIDE;
            int[] h = padHold();
            if (h == null) return NO;
            int[] bar = barred(h);
            return bar == null ? NONE : bar[what];
        }

        int[] standing() {
            int[] h = padHold();
            return h == null || barred(h) != null ? null : h;
        }

        int leavesAt(int s, int[] h, boolean[] closed) {
            int sum = 0;
            for (int i = 0; i <= s; i++) {
                sum += w.seconds[i];
                sum += closed[i] ? 0 : h[i];
            }
            for (int i = 0; i < s; i++) {
                if (closed[i] && w.seconds[i] > 0) sum -= 1;
            }
            return sum;
        }

        boolean rides(int p, int[] h, boolean[] closed, int late) {
            Person q = w.people[p];
            return q != null && !closed[q.stop] && q.comes + late <= leavesAt(q.stop, h, closed);
        }

        int ridersOf(int[] h, boolean[] closed, int late) {
            int bits = 0;
            for (int p = 0; p < 8; p++) {
                bits |= rides(p, h, closed, late) ? 1 << p : 0;
            }
            return bits;
        }

        int goodOf(int come, int riders) {
            int sum = 0;
            for (int p = 0; p < 8; p++) {
                if ((come >> p & 1) == 1) {
                    sum += (riders >> p & 1) == 1 ? w.people[p].ride : w.people[p].walk;
                }
            }
            return sum;
        }

        int othersOf(int riders) {
            int sum = 0;
            for (int p = 0; p < 8; p++) {
                if ((riders >> p & 1) == 1) sum += w.people[p].other;
            }
            return sum;
        }

        int riders() {
            int[] h = standing();
            return h == null ? NO : ridersOf(h, w.closed, 0);
        }

        int good(int what) {
            if (!in(what, 0, 1)) return OUTSIDE;
            int r = riders();
            if (r < 0) return NO;
            return 1000 + (what == 0 ? goodOf(peopleBits(), r) : othersOf(r));
        }

        int leaves(int s) {
            if (!stop(s)) return UNKNOWN;
            int[] h = standing();
            return h == null ? NO : leavesAt(s, h, w.closed);
        }

        int vain() {
            int[] h = standing();
            if (h == null) return NO;
            for (int s = 0; s < n(); s++) {
                int[] less = h.clone();
                less[s] = 0;
                if (h[s] > 0 && !w.closed[s] && ridersOf(less, w.closed, 0) == ridersOf(h, w.closed, 0)) return s;
            }
            return NONE;
        }

        /** All holds that can be, nothing at closed stops, the first by stops first. */
        List<int[]> holds(int breaths) {
            List<int[]> all = new ArrayList<>();
            grow(all, new int[n()], 0, breaths);
            return all;
        }

        void grow(List<int[]> all, int[] h, int s, int left) {
            if (s == n()) {
                all.add(h.clone());
                return;
            }
            for (int b = 0; b <= (w.closed[s] ? 0 : Math.min(left, w.each)); b++) {
                h[s] = b;
                grow(all, h, s + 1, left - b);
            }
            h[s] = 0;
        }

        int goodBy(int[] h, int come) {
            return goodOf(come, ridersOf(h, w.closed, 0) & come);
        }

        int[] bestHold(int breaths) {
            int[] found = null;
            int top = 0;
            for (int[] h : holds(breaths)) {
                int g = goodBy(h, peopleBits());
                if (found == null || g > top) {
                    found = h;
                    top = g;
                }
            }
            return found;
        }

        int best(int s) {
            if (s != -1 && !stop(s)) return UNKNOWN;
            int[] h = bestHold(w.breaths);
            return s == -1 ? goodBy(h, peopleBits()) + 1000 : h[s];
        }

        int worth() {
            return goodBy(bestHold(w.breaths + 1), peopleBits()) - goodBy(bestHold(w.breaths), peopleBits());
        }

        int[] meantHold(int ride, int walk) {
            int[] found = null;
            for (int[] h : holds(w.breaths)) {
                int r = ridersOf(h, w.closed, 0);
                boolean fits = (r & ride) == ride && (r & walk) == 0;
                if (fits && (found == null || Arrays.stream(h).sum() < Arrays.stream(found).sum())) found = h;
            }
            return found;
        }

        boolean sets(int ride, int walk) {
            for (int i = 0; i < 32; i++) {
                boolean a = (ride >>> i & 1) == 1;
                boolean b = (walk >>> i & 1) == 1;
                if (a && b || (a || b) && !there(i)) return false;
            }
            return true;
        }

        int meant(int ride, int walk, int s) {
            if (s != -1 && !stop(s)) return UNKNOWN;
            if (!sets(ride, walk)) return OUTSIDE;
            int[] h = meantHold(ride, walk);
            if (h == null) return NONE;
            return s == -1 ? Arrays.stream(h).sum() : h[s];
        }

        int bars(int ride, int walk) {
            if (!sets(ride, walk)) return OUTSIDE;
            if (meantHold(ride, walk) != null) return NONE;
            for (int p = 0; p < 8; p++) {
                boolean of = ((ride | walk) >> p & 1) == 1;
                if (of && meantHold(ride & ~(1 << p), walk & ~(1 << p)) != null) return p;
            }
            return NONE;
        }

        int fund(int breaths, int m, int night) {
            if (!in(breaths, 0, 40) || !in(m, 1, 7) || !in(night, -1, m - 1)) return OUTSIDE;
            Integer[][] byTotal = new Integer[m][10];
            for (int[] h : holds(w.breaths)) {
                int total = Arrays.stream(h).sum();
                for (int i = 0; i < m; i++) {
                    int g = goodBy(h, comeIn(i));
                    if (byTotal[i][total] == null || byTotal[i][total] < g) byTotal[i][total] = g;
                }
            }
            int[] answer = spend(byTotal, 0, breaths, new HashMap<>());
            return night == -1 ? answer[0] + 10000 : answer[1 + night];
        }

        int comeIn(int night) {
            int come = 0;
            for (int p = 0; p < 8; p++) {
                if (there(p) && (w.people[p].nights >> night & 1) == 1) come |= 1 << p;
            }
            return come;
        }

        /** {good, breaths from this night on ..}. */
        int[] spend(Integer[][] byTotal, int night, int left, Map<Integer, int[]> known) {
            if (night == byTotal.length) return new int[] {0};
            int key = night * 100 + left;
            if (known.containsKey(key)) return known.get(key);
            int[] found = null;
            for (int b = 0; b <= Math.min(9, left); b++) {
                if (byTotal[night][b] == null) continue;
                int[] rest = spend(byTotal, night + 1, left - b, known);
                int g = byTotal[night][b] + rest[0];
                if (found == null || g > found[0]) {
                    found = new int[rest.length + 1];
                    System.arraycopy(rest, 0, found, 1, rest.length);
                    found[0] = g;
                    found[1] = b;
                }
            }
            known.put(key, found);
            return found;
        }

        int rival(int what) {
            if (!in(what, 0, 2)) return OUTSIDE;
            if (w.breaths > 5) return FULL;
            int[] end = turn(new int[n()], 0, false, new HashMap<>());
            return what == 2 ? gameFirst : end[what] + 1000;
        }

        int[] turn(int[] h, int who, boolean passed, Map<String, int[]> known) {
            String key = Arrays.toString(h) + who + passed;
            if (known.containsKey(key)) return known.get(key);
            int r = ridersOf(h, w.closed, 0);
            int[] here = {goodOf(peopleBits(), r), othersOf(r)};
            List<Integer> moves = new ArrayList<>();
            for (int s = 0; s < n(); s++) {
                if (!w.closed[s] && h[s] < w.each && Arrays.stream(h).sum() < w.breaths) moves.add(s);
            }
            int chosen = NONE;
            int[] end = here;
            if (!moves.isEmpty()) {
                end = passed ? here : turn(h, 1 - who, true, known);
                for (int s : moves) {
                    int[] more = h.clone();
                    more[s]++;
                    int[] then = turn(more, 1 - who, false, known);
                    if (then[who] > end[who]) {
                        end = then;
                        chosen = s;
                    }
                }
            }
            if (Arrays.stream(h).sum() == 0 && who == 0 && !passed) gameFirst = chosen;
            known.put(key, end);
            return end;
        }

        int closing(int k, int what) {
            if (!in(k, 0, 6) || !in(what, 0, 1)) return OUTSIDE;
            int found = NONE;
            int top = 0;
            for (int set = 0; set < 64; set++) {
                boolean fits = Integer.bitCount(set) == k;
                boolean[] shut = w.closed.clone();
                for (int s = 0; s < 6; s++) {
                    if ((set >> s & 1) == 1) {
                        fits &= s < n() && !w.closed[s];
                        if (s < n()) shut[s] = true;
                    }
                }
                if (!fits) continue;
                int g = goodOf(peopleBits(), ridersOf(new int[n()], shut, 0));
                if (found == NONE || g > top) {
                    found = set;
                    top = g;
                }
            }
            if (found == NONE) return NONE;
            return what == 0 ? top + 1000 : found;
        }

        int seen(int p, int rode) {
            if (!there(p)) return UNKNOWN;
            if (!in(rode, 0, 1)) return OUTSIDE;
            if (w.sights.size() == 8) return FULL;
            w.sights.add(new int[] {p, rode});
            return w.sights.size();
        }

        int forget() {
            int were = w.sights.size();
            w.sights.clear();
            return were;
        }

        int held(int s, int what) {
            if (s != -1 && !stop(s)) return UNKNOWN;
            if (!in(what, 0, 1)) return OUTSIDE;
            int many = 0, fewest = 99, least = 99, greatest = -1;
            for (int[] h : holds(w.breaths)) {
                boolean fits = true;
                for (int[] sight : w.sights) {
                    fits &= rides(sight[0], h, w.closed, 0) == (sight[1] == 1);
                }
                if (!fits) continue;
                many++;
                fewest = Math.min(fewest, Arrays.stream(h).sum());
                least = Math.min(least, s == -1 ? 0 : h[s]);
                greatest = Math.max(greatest, s == -1 ? 0 : h[s]);
            }
            if (s == -1 && what == 0) return many;
            if (many == 0) return NONE;
            if (s == -1) return fewest;
            return what == 0 ? least : greatest;
        }

        boolean runners(int later, int t, int part) {
            return in(later, 1, 20) && in(t, 0, 10) && in(part, 0, 1);
        }

        static long part(long a, long b, int part) {
            for (long g = b; g > 1; g--) {
                if (a % g == 0 && b % g == 0) {
                    a /= g;
                    b /= g;
                }
            }
            return part == 0 ? a : b;
        }

        int tenths(int p, int[] h, int later, int t) {
            return (rides(p, h, w.closed, 0) ? 10 - t : 0) + (rides(p, h, w.closed, later) ? t : 0);
        }

        long runs(int p, int later, int t, int part) {
            if (!there(p)) return GONE + UNKNOWN;
            if (!runners(later, t, part)) return GONE + OUTSIDE;
            int[] h = standing();
            return h == null ? GONE + NO : part(tenths(p, h, later, t), 10, part);
        }

        /** The mean by going through all ways in which the people can be late. */
        long mean(int later, int t, int part) {
            if (!runners(later, t, part)) return GONE + OUTSIDE;
            int[] h = standing();
            if (h == null) return GONE + NO;
            int on = ridersOf(h, w.closed, 0);
            int behind = ridersOf(h, w.closed, later);
            long sum = 0;
            long whole = 1;
            for (int i = 0; i < count(); i++) whole *= 10;
            for (int late = 0; late < 256; late++) {
                if ((late & ~peopleBits()) != 0) continue;
                long weight = 1;
                for (int p = 0; p < 8; p++) {
                    if (there(p)) weight *= (late >> p & 1) == 1 ? t : 10 - t;
                }
                sum += weight * goodOf(peopleBits(), on & ~late | behind & late);
            }
            if (whole > 1) {
                if (sum % (whole / 10) != 0) throw new IllegalStateException("mean is not in tenths");
                return part(sum / (whole / 10), 10, part);
            }
            return part == 0 ? 0 : 1;
        }

        int waits(int p, int later, int t, int a, int b) {
            if (!there(p)) return UNKNOWN;
            if (!runners(later, t, 0) || !in(b, 1, 100) || !in(a, 0, b)) return OUTSIDE;
            int s = w.people[p].stop;
            if (w.closed[s]) return STATE;
            for (int v = 0; v <= 9; v++) {
                int[] h = new int[n()];
                h[s] = v;
                if (barred(h) == null && tenths(p, h, later, t) * b >= a * 10) return v;
            }
            return NONE;
        }

        int year(int seed, int m, int what) {
            if (!in(seed, 0, 9999) || !in(m, 1, 99) || !in(what, 0, 2)) return OUTSIDE;
            int[] h = standing();
            if (h == null) return NO;
            long x = seed;
            int sum = 100000, many = 0, empty = 0;
            for (int i = 0; i < m; i++) {
                x = (75 * x + 74) % 65537;
                int ride = 0;
                for (int p = 0; p < 8; p++) {
                    boolean comes = x % (1L << p + 1) / (1L << p) == 1;
                    if (!there(p) || !comes) continue;
                    boolean rode = rides(p, h, w.closed, (int) (x / 256 % 4));
                    sum += rode ? w.people[p].ride : w.people[p].walk;
                    ride += rode ? 1 : 0;
                }
                many += ride;
                empty += ride == 0 ? 1 : 0;
            }
            return what == 0 ? sum : what == 1 ? many : empty;
        }

        int image(int k) {
            if (!in(k, 0, 1)) return OUTSIDE;
            images[k] = w.copy();
            return 1;
        }

        int restore(int k) {
            if (!in(k, 0, 1)) return OUTSIDE;
            if (images[k] == null) return STATE;
            w = images[k].copy();
            return 1;
        }

        int told(int what) {
            int[] plain = {pad.length(), n(), closedBits(), peopleBits(), w.breaths, w.each, w.sights.size()};
            if (in(what, 0, 6)) return plain[what];
            if (in(what, 10, 15)) return stop(what - 10) ? w.seconds[what - 10] : OUTSIDE;
            if (!in(what, 20, 99) || !there(what / 10 - 2) || what % 10 > 5) return OUTSIDE;
            Person q = w.people[what / 10 - 2];
            return new int[] {q.stop, q.comes, q.ride + 10, q.walk + 10, q.other + 10, q.nights}[what % 10];
        }
    }

    private static final Random DRAW = new Random(20261118);
    private static int checks = 0;
    private static int wrong = 0;

    private static int draw(int a, int b) {
        return a + DRAW.nextInt(b - a + 1);
    }

    /** Mostly from a to b, now and then a little or far outside. */
    private static int near(int a, int b) {
        int[] odd = {a - 1, b + 1, Integer.MIN_VALUE, Integer.MAX_VALUE, -1, 33};
        return draw(0, 19) == 0 ? odd[draw(0, 5)] : draw(a, b);
    }

    private static void due(StringBuilder run, String call, long got, long want) {
        run.append("  ").append(call).append(" -> ").append(got).append('\n');
        checks++;
        if (got != want) {
            wrong++;
            if (wrong <= 5) System.out.println("wrong, due is " + want + ":\n" + run);
        }
    }

    private static int drawnSet(Model m) {
        int set = draw(0, 255) & draw(0, 255);
        return draw(0, 11) == 0 ? set : set & m.peopleBits();
    }

    private static void text(StringBuilder run, TramGod x, Model m, int length, int highest) {
        due(run, "wipe()", x.wipe(), m.wipe());
        for (int i = 0; i < length; i++) {
            int sign = draw(0, 60) == 0 ? near(33, 126) : '0' + draw(0, draw(0, highest));
            due(run, "say(" + sign + ")", x.say(sign), m.say(sign));
        }
    }

    private static void person(StringBuilder run, TramGod x, Model m) {
        int p = near(0, 7);
        int s = near(0, m.n() - 1);
        int due = m.stop(s) ? m.leavesAt(s, new int[m.n()], m.w.closed) : 10;
        int c = draw(0, 15) == 0 ? near(0, 99) : Math.max(0, due + draw(-2, 6));
        int a = near(-9, 9);
        int b = near(-9, 9);
        int o = near(-9, 9);
        due(run, "person(" + p + "," + s + "," + c + "," + a + "," + b + "," + o + ")",
            x.person(p, s, c, a, b, o), m.person(p, s, c, a, b, o));
    }

    private static void change(StringBuilder run, TramGod x, Model m) {
        int p = near(0, 7);
        int k = near(0, 1);
        int s = near(0, m.n() - 1);
        switch (draw(0, 13)) {
            case 0:
                text(run, x, m, draw(1, 6), 9);
                due(run, "line()", x.line(), m.line());
                break;
            case 1: case 2: {
                boolean is = draw(0, 2) == 0;
                due(run, "close(" + s + "," + is + ")", x.close(s, is), m.close(s, is));
                break;
            }
            case 3: due(run, "leave(" + p + ")", x.leave(p), m.leave(p)); break;
            case 4: case 5: {
                int set = near(0, 127);
                due(run, "nights(" + p + "," + set + ")", x.nights(p, set), m.nights(p, set));
                break;
            }
            case 6: case 7: {
                int v = near(0, 9);
                due(run, "set(" + k + "," + v + ")", x.set(k, v), m.set(k, v));
                break;
            }
            case 8: case 9: {
                int rode = near(0, 1);
                due(run, "seen(" + p + "," + rode + ")", x.seen(p, rode), m.seen(p, rode));
                break;
            }
            case 10: if (draw(0, 2) == 0) due(run, "forget()", x.forget(), m.forget()); break;
            case 11: due(run, "image(" + k + ")", x.image(k), m.image(k)); break;
            case 12: due(run, "restore(" + k + ")", x.restore(k), m.restore(k)); break;
            default: text(run, x, m, draw(0, 9) == 0 ? draw(0, 22) : m.n(), 3); break;
        }
    }

    private static void ask(StringBuilder run, TramGod x, Model m) {
        int what = near(0, 1);
        int s = near(-1, m.n() - 1);
        int p = near(0, 7);
        int later = draw(0, 2) == 0 ? near(1, 20) : draw(1, 4);
        int t = near(0, 10);
        switch (draw(0, 19)) {
            case 0: due(run, "fault(" + what + ")", x.fault(what), m.fault(what)); break;
            case 1: due(run, "judge(" + what + ")", x.judge(what), m.judge(what)); break;
            case 2: due(run, "riders()", x.riders(), m.riders()); break;
            case 3: due(run, "good(" + what + ")", x.good(what), m.good(what)); break;
            case 4: due(run, "leaves(" + s + ")", x.leaves(s), m.leaves(s)); break;
            case 5: due(run, "vain()", x.vain(), m.vain()); break;
            case 6: due(run, "best(" + s + ")", x.best(s), m.best(s)); break;
            case 7: due(run, "worth()", x.worth(), m.worth()); break;
            case 8: case 9: {
                int ride = drawnSet(m);
                int walk = draw(0, 9) == 0 ? drawnSet(m) : drawnSet(m) & ~ride;
                due(run, "meant(" + ride + "," + walk + "," + s + ")", x.meant(ride, walk, s), m.meant(ride, walk, s));
                due(run, "bars(" + ride + "," + walk + ")", x.bars(ride, walk), m.bars(ride, walk));
                break;
            }
            case 10: case 11: {
                int f = draw(0, 1) == 0 ? near(0, 40) : draw(0, 15);
                int nights = near(1, 7);
                int night = near(-1, 6);
                due(run, "fund(" + f + "," + nights + "," + night + ")", x.fund(f, nights, night), m.fund(f, nights, night));
                break;
            }
            case 12: case 13: {
                int w = near(0, 2);
                due(run, "rival(" + w + ")", x.rival(w), m.rival(w));
                break;
            }
            case 14: {
                int k = draw(0, 1) == 0 ? near(0, 6) : draw(0, 3);
                due(run, "closing(" + k + "," + what + ")", x.closing(k, what), m.closing(k, what));
                break;
            }
            case 15: due(run, "held(" + s + "," + what + ")", x.held(s, what), m.held(s, what)); break;
            case 16: due(run, "runs(" + p + "," + later + "," + t + "," + what + ")", x.runs(p, later, t, what), m.runs(p, later, t, what)); break;
            case 17: due(run, "mean(" + later + "," + t + "," + what + ")", x.mean(later, t, what), m.mean(later, t, what)); break;
            case 18: {
                int b = near(1, draw(0, 1) == 0 ? 10 : 100);
                int a = near(0, Math.max(0, Math.min(b, 100)));
                due(run, "waits(" + p + "," + later + "," + t + "," + a + "," + b + ")", x.waits(p, later, t, a, b), m.waits(p, later, t, a, b));
                break;
            }
            default: {
                int seed = near(0, 9999);
                int nights = near(1, 99);
                int w = near(0, 2);
                due(run, "year(" + seed + "," + nights + "," + w + ")", x.year(seed, nights, w), m.year(seed, nights, w));
                break;
            }
        }
    }

    private static void tellAll(StringBuilder run, TramGod x, Model m) {
        for (int what = -2; what <= 110; what++) {
            if (x.told(what) != m.told(what)) due(run, "told(" + what + ")", x.told(what), m.told(what));
        }
        checks++;
    }

    private static void oneRun(int number) {
        StringBuilder run = new StringBuilder("run " + number + ":\n");
        TramGod x = new TramGod();
        Model m = new Model();
        if (draw(0, 3) > 0) {
            text(run, x, m, draw(1, 6), 9);
            due(run, "line()", x.line(), m.line());
        }
        if (draw(0, 2) > 0) {
            int few = draw(0, 5);
            due(run, "set(0," + few + ")", x.set(0, few), m.set(0, few));
        }
        if (draw(0, 3) == 0) {
            int few = draw(1, 2);
            due(run, "set(1," + few + ")", x.set(1, few), m.set(1, few));
        }
        for (int i = draw(0, 9); i > 0; i--) person(run, x, m);
        text(run, x, m, m.n(), 2);
        for (int i = 0; i < 60; i++) {
            int kind = draw(0, 9);
            if (kind == 0) person(run, x, m);
            else if (kind <= 2) change(run, x, m);
            else ask(run, x, m);
        }
        tellAll(run, x, m);
    }

    /** The rival's game by all numbers of stops and breaths: so many of each, nearly all people within reach. */
    private static void games(int many) {
        for (int n = 1; n <= 6; n++) {
            for (int breaths = 0; breaths <= 5; breaths++) {
                for (int i = 0; i < many; i++) oneGame(n, breaths, i);
            }
        }
    }

    private static void oneGame(int n, int breaths, int number) {
        StringBuilder run = new StringBuilder("game " + number + " of " + n + " stops, " + breaths + " breaths:\n");
        TramGod x = new TramGod();
        Model m = new Model();
        text(run, x, m, n, 9);
        due(run, "line()", x.line(), m.line());
        due(run, "set(0," + breaths + ")", x.set(0, breaths), m.set(0, breaths));
        if (draw(0, 2) == 0) {
            int each = draw(0, 3);
            due(run, "set(1," + each + ")", x.set(1, each), m.set(1, each));
        }
        if (draw(0, 3) == 0) {
            int s = draw(0, m.n() - 1);
            due(run, "close(" + s + ",true)", x.close(s, true), m.close(s, true));
        }
        for (int p = draw(2, 7); p >= 0; p--) runner(run, x, m, p);
        for (int what = 0; what < 3; what++) due(run, "rival(" + what + ")", x.rival(what), m.rival(what));
    }

    /** A person who needs from none to one breath more than there are. */
    private static void runner(StringBuilder run, TramGod x, Model m, int p) {
        int s = draw(0, m.n() - 1);
        int c = m.leavesAt(s, new int[m.n()], m.w.closed) + draw(0, m.w.breaths + 1);
        int a = draw(-9, 9);
        int b = draw(-9, 9);
        int o = draw(-9, 9);
        due(run, "person(" + p + "," + s + "," + c + "," + a + "," + b + "," + o + ")",
            x.person(p, s, c, a, b, o), m.person(p, s, c, a, b, o));
    }

    public static void main(String[] args) {
        int runs = args.length > 0 ? Integer.parseInt(args[0]) : 1500;
        for (int i = 0; i < runs; i++) oneRun(i);
        games(Math.max(1, runs / 50));
        System.out.println(checks + " answers looked at, " + wrong + " not as due");
        if (wrong != 0) System.exit(1);
    }
}
