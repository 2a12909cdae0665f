import java.math.BigInteger;
import java.util.ArrayList;
import java.util.Arrays;
import java.util.HashMap;
import java.util.HashSet;
import java.util.List;
import java.util.Map;
import java.util.Set;
import java.util.TreeSet;

/** The document once more, by trying everything: slow, plain, and sharing no code with the class. */
final class Model {
    static final class Bed { String name; int floor, place; }
    static final class Clock { String name; int loud, shift; }
    static final class Sleeper { String name; int bed, deep, hour = -2, late, vain; boolean wool; }
    static final class Snd implements Cloneable {
        int kind, minute, loud, bed, sleeper = -1;
        Snd copy() { Snd s = new Snd(); s.kind = kind; s.minute = minute; s.loud = loud; s.bed = bed; s.sleeper = sleeper; return s; }
    }
    static final class Entry { boolean isVoid; int sleeper, weekday, minute, names; }
    static final class Tok {
        final String text; final int at;
        Tok(String text, int at) { this.text = text; this.at = at; }
    }
    static final class Zero extends RuntimeException { }

    static final Set<String> WORDS = Set.of("bed", "clock", "fast", "slow", "sleeper", "in", "deep", "up", "late", "vain",
        "hears", "again", "loud", "gap", "floors", "hour", "wool", "after");
    static final Set<String> VARS = Set.of("loud", "gap", "floors", "hour", "deep", "wool", "after");

    StringBuilder tape = new StringBuilder();
    int faultAt = -1;
    List<Bed> beds = new ArrayList<>();
    List<Clock> clocks = new ArrayList<>();
    List<Sleeper> sleepers = new ArrayList<>();
    List<String> hearsLaw = List.of("loud", "-", "gap", "-", "floors", "*", "3", "-", "wool", "*", "4");
    List<String> againLaw = List.of("0");
    List<Snd> plan = new ArrayList<>();
    List<Entry> row = new ArrayList<>();
    Object[][] slots = new Object[2][];

    // ---- the tape and its text
    int feed(int a, int b, int c, int d, int e) {
        if (tape.length() + 20 > 2000) return -1;
        for (int x : new int[] {a, b, c, d, e})
            for (int i = 3; i >= 0; i--) tape.append((char) ((x >>> (8 * i)) & 255));
        return tape.length();
    }
    int place() { return faultAt; }
    int back(int n) {
        if (n < 0 || n > tape.length()) return -1;
        tape.setLength(tape.length() - n);
        return tape.length();
    }

    static String kindOf(String t) {
        if (t.isEmpty()) return "end";
        if (t.matches("[0-9]{1,4}")) return "INT";
        if (WORDS.contains(t)) return t;
        if (t.matches("[a-z]{1,8}")) return "NAME";
        if (t.matches("[-;+*/<()\\[\\]]|==")) return t;
        return "none";
    }

    static List<Tok> tokens(String s) {
        List<Tok> out = new ArrayList<>();
        int i = 0;
        while (i < s.length()) {
            char c = s.charAt(i);
            if ("\t\n\r ".indexOf(c) >= 0) { i++; continue; }
            int j = i + 1;
            if (c >= 'a' && c <= 'z') while (j < s.length() && s.charAt(j) >= 'a' && s.charAt(j) <= 'z') j++;
            else if (c >= '0' && c <= '9') while (j < s.length() && s.charAt(j) >= '0' && s.charAt(j) <= '9') j++;
            else if (s.startsWith("==", i)) j = i + 2;
            out.add(new Tok(s.substring(i, j), i));
            i = j;
        }
        out.add(new Tok("", s.length()));
        return out;
    }

    /** SYNTAX and ROOM by a machine of states with a stack; answers {fault, place} or null. */
    static int[] form(List<Tok> toks) {
        String state = "tell";
        StringBuilder open = new StringBuilder();   // ( [ and ] for a test whose sign has come
        int bedCount = 0, clockCount = 0, sleeperCount = 0;
        for (int n = 0; n < toks.size(); n++) {
            Tok tok = toks.get(n);
            String k = kindOf(tok.text);
            String next = null;
            boolean room = n >= 400;
            switch (state) {
                case "tell":
                    if (k.equals("end")) return null;
                    if (k.equals("bed")) { next = "b1"; room |= ++bedCount > 12; }
                    if (k.equals("clock")) { next = "c1"; room |= ++clockCount > 9; }
                    if (k.equals("sleeper")) { next = "s1"; room |= ++sleeperCount > 12; }
                    if (k.equals("hears") || k.equals("again")) next = "unit";
                    break;
                case "b1": if (k.equals("NAME")) next = "b2"; break;
                case "b2": if (k.equals("INT")) next = "b3"; break;
                case "b3": if (k.equals("INT")) next = "semi"; break;
                case "c1": if (k.equals("NAME")) next = "c2"; break;
                case "c2": if (k.equals("INT")) next = "c3"; break;
                case "c3": if (k.equals("fast") || k.equals("slow")) next = "c4"; if (k.equals(";")) next = "tell"; break;
                case "c4": if (k.equals("INT")) next = "semi"; break;
                case "s1": if (k.equals("NAME")) next = "s2"; break;
                case "s2": if (k.equals("in")) next = "s3"; break;
                case "s3": if (k.equals("NAME")) next = "s4"; break;
                case "s4": if (k.equals("deep")) next = "s5"; break;
                case "s5": if (k.equals("INT")) next = "s6"; break;
                case "s6":
                    if (k.equals("up")) next = "s7";
                    if (k.equals("vain")) next = "s10";
                    if (k.equals(";")) next = "tell";
                    break;
                case "s7": if (k.equals("INT")) next = "s8"; break;
                case "s8": if (k.equals("late")) next = "s10"; break;
                case "s10": if (k.equals("INT")) next = "semi"; break;
                case "semi": if (k.equals(";")) next = "tell"; break;
                case "unit":
                    if (k.equals("INT") || VARS.contains(k)) next = "behind";
                    if (k.equals("(") || k.equals("[")) { next = "unit"; open.append(k); room |= open.length() > 6; }
                    break;
                default:
                    char last = open.length() == 0 ? ' ' : open.charAt(open.length() - 1);
                    if ("+-*/".contains(k) && k.length() == 1) next = "unit";
                    if (k.equals(";") && last == ' ') next = "tell";
                    if (k.equals(")") && last == '(' || k.equals("]") && last == ']') { next = "behind"; open.setLength(open.length() - 1); }
                    if ((k.equals("<") || k.equals("==")) && last == '[') { next = "unit"; open.setCharAt(open.length() - 1, ']'); }
            }
            if (next == null) return new int[] {1, tok.at};
            if (room) return new int[] {2, tok.at};
            state = next;
        }
        throw new IllegalStateException();
    }

    int read() {
        String s = tape.toString();
        tape.setLength(0);
        List<Tok> toks = tokens(s);
        int[] bad = form(toks);
        if (bad != null) { faultAt = bad[1]; return bad[0]; }
        Model m = new Model();
        List<int[]> faults = new ArrayList<>();
        Map<String, Integer> told = new HashMap<>();
        Set<Integer> taken = new HashSet<>();
        int i = 0;
        while (!toks.get(i).text.isEmpty()) {
            int end = i;
            while (!toks.get(end).text.equals(";")) end++;
            List<Tok> t = toks.subList(i, end);
            m.sense(t, told, taken, faults);
            i = end + 1;
        }
        if (!faults.isEmpty()) {
            faults.sort((a, b) -> a[1] != b[1] ? a[1] - b[1] : a[0] - b[0]);
            faultAt = faults.get(0)[1];
            return faults.get(0)[0];
        }
        beds = m.beds; clocks = m.clocks; sleepers = m.sleepers; hearsLaw = m.hearsLaw; againLaw = m.againLaw;
        plan = new ArrayList<>(); row = new ArrayList<>(); slots = new Object[2][];
        faultAt = -1;
        return 0;
    }

    private static int num(Tok t, int lo, int hi, List<int[]> faults) {
        int v = Integer.parseInt(t.text);
        if (v < lo || v > hi) faults.add(new int[] {5, t.at});
        return v;
    }

    private void sense(List<Tok> t, Map<String, Integer> told, Set<Integer> taken, List<int[]> faults) {
        String first = t.get(0).text;
        if (first.equals("hears") || first.equals("again")) {
            List<String> law = new ArrayList<>();
            for (Tok x : t.subList(1, t.size())) law.add(x.text);
            if (first.equals("hears")) hearsLaw = law; else againLaw = law;
            return;
        }
        String name = t.get(1).text;
        if (told.containsKey(name)) faults.add(new int[] {3, t.get(1).at});
        if (first.equals("bed")) {
            told.putIfAbsent(name, beds.size());
            Bed b = new Bed();
            b.floor = num(t.get(2), 0, 3, faults);
            b.place = num(t.get(3), 0, 9, faults);
            beds.add(b);
        } else if (first.equals("clock")) {
            told.putIfAbsent(name, -1);
            Clock c = new Clock();
            c.loud = num(t.get(2), 1, 12, faults);
            if (t.size() > 3) c.shift = num(t.get(4), 0, 30, faults) * (t.get(3).text.equals("fast") ? -1 : 1);
            clocks.add(c);
        } else {
            told.putIfAbsent(name, -1);
            Sleeper s = new Sleeper();
            Integer bed = told.get(t.get(3).text);
            if (bed == null || bed == -1) faults.add(new int[] {4, t.get(3).at});
            else if (!taken.add(bed)) faults.add(new int[] {3, t.get(3).at});
            s.bed = bed == null ? -1 : bed;
            s.deep = num(t.get(5), 0, 9, faults);
            if (t.size() == 10) { s.hour = num(t.get(7), 0, 399, faults); s.late = num(t.get(9), 0, 9, faults); }
            if (t.size() == 8) s.vain = num(t.get(7), 0, 9, faults);
            sleepers.add(s);
        }
    }

    // ---- laws
    static int law(List<String> law, Map<String, Integer> vars) {
        int[] at = {0};
        int v;
        try { v = expr(law, at, vars); } catch (Zero z) { v = 0; }
        return v < 0 ? 0 : v > 10 ? 10 : v;
    }
    static int expr(List<String> l, int[] at, Map<String, Integer> vars) {
        int v = part(l, at, vars);
        while (at[0] < l.size() && (l.get(at[0]).equals("+") || l.get(at[0]).equals("-"))) {
            boolean plus = l.get(at[0]++).equals("+");
            int w = part(l, at, vars);
            v = plus ? v + w : v - w;
        }
        return v;
    }
    static int part(List<String> l, int[] at, Map<String, Integer> vars) {
        int v = unit(l, at, vars);
        while (at[0] < l.size() && (l.get(at[0]).equals("*") || l.get(at[0]).equals("/"))) {
            boolean times = l.get(at[0]++).equals("*");
            int w = unit(l, at, vars);
            if (!times && w == 0) throw new Zero();
            v = times ? v * w : v / w;
        }
        return v;
    }
    static int unit(List<String> l, int[] at, Map<String, Integer> vars) {
        String t = l.get(at[0]++);
        if (Character.isDigit(t.charAt(0))) return Integer.parseInt(t);
        if (vars.containsKey(t)) return vars.get(t);
        int v = expr(l, at, vars);
        if (t.equals("(")) { at[0]++; return v; }
        boolean less = l.get(at[0]++).equals("<");
        int w = expr(l, at, vars);
        at[0]++;
        return (less ? v < w : v == w) ? 1 : 0;
    }
    int hearing(int s, int bed, boolean wool, int loud, int from, int minute) {
        Map<String, Integer> v = new HashMap<>();
        v.put("loud", loud);
        v.put("gap", Math.abs(beds.get(bed).place - beds.get(from).place));
        v.put("floors", Math.abs(beds.get(bed).floor - beds.get(from).floor));
        v.put("hour", minute / 60);
        v.put("deep", sleepers.get(s).deep);
        v.put("wool", wool ? 1 : 0);
        v.put("after", 0);
        return law(hearsLaw, v);
    }
    int againOf(int s, int after) {
        Map<String, Integer> v = new HashMap<>();
        for (String x : VARS) v.put(x, 0);
        v.put("deep", sleepers.get(s).deep);
        v.put("after", after);
        return law(againLaw, v);
    }
    int hearingOf(int s, Snd x) {
        if (x.kind == 1) return x.sleeper == s ? 10 : 0;
        return hearing(s, sleepers.get(s).bed, sleepers.get(s).wool, x.loud, x.bed, x.minute);
    }

    // ---- nights
    static List<Snd> order(List<Snd> p) {
        List<Snd> o = new ArrayList<>(p);
        o.sort((a, b) -> a.minute - b.minute);
        return o;
    }
    static BigInteger big(long v) { return BigInteger.valueOf(v); }

    /** All nights one by one: from the j-th SOUND on, awake or not; the ways in which he is up at the end. */
    BigInteger upFrom(int s, List<Snd> o, int j, boolean awake) {
        int hour = sleepers.get(s).hour;
        if (j == o.size() || o.get(j).minute > hour) {
            BigInteger rest = big(10).pow(2 * (o.size() - j));
            if (!awake) return BigInteger.ZERO;
            return rest.multiply(big(10 - againOf(s, hour - o.get(j - 1).minute)));
        }
        int h = hearingOf(s, o.get(j));
        BigInteger asleep = big(h).multiply(upFrom(s, o, j + 1, true)).add(big(10 - h).multiply(upFrom(s, o, j + 1, false)));
        if (!awake) return j == 0 ? asleep : asleep.multiply(big(10));
        int r = againOf(s, o.get(j).minute - o.get(j - 1).minute);
        return big(r).multiply(asleep).add(big(10 - r).multiply(big(10)).multiply(upFrom(s, o, j + 1, true)));
    }
    long upWays(int s, List<Snd> p) { return upFrom(s, order(p), 0, false).longValueExact(); }
    long wokenWays(int s, List<Snd> p) {
        BigInteger no = BigInteger.ONE;
        for (Snd x : p) no = no.multiply(big(10L * (10 - hearingOf(s, x))));
        return big(100).pow(p.size()).subtract(no).longValueExact();
    }
    long share(int s, List<Snd> p) {
        Sleeper x = sleepers.get(s);
        return x.hour == -2 ? x.vain * wokenWays(s, p) : x.late * (big(100).pow(p.size()).longValueExact() - upWays(s, p));
    }
    long costOf(List<Snd> p) {
        long c = 0;
        for (int s = 0; s < sleepers.size(); s++) c += share(s, p);
        return c;
    }

    boolean isS(int s) { return s >= 0 && s < sleepers.size(); }
    boolean isB(int b) { return b >= 0 && b < beds.size(); }
    boolean isC(int c) { return c >= 0 && c < clocks.size(); }
    static boolean in(int v, int lo, int hi) { return v >= lo && v <= hi; }

    int of(int s, int what) {
        if (!isS(s)) return -1;
        Sleeper x = sleepers.get(s);
        int[] all = {x.bed, x.deep, x.hour, x.late, x.vain, x.wool ? 1 : 0};
        return in(what, 0, 5) ? all[what] : -1;
    }
    int lies(int b) {
        if (!isB(b)) return -1;
        for (int s = 0; s < sleepers.size(); s++) if (sleepers.get(s).bed == b) return s;
        return -2;
    }
    int hears(int s, int loud, int b, int m) {
        if (!isS(s) || !in(loud, 1, 12) || !isB(b) || !in(m, 0, 399)) return -1;
        return hearing(s, sleepers.get(s).bed, sleepers.get(s).wool, loud, b, m);
    }
    int again(int s, int after) { return isS(s) && in(after, 0, 399) ? againOf(s, after) : -1; }

    Snd ringOf(int clock, int bed, int set) {
        Snd x = new Snd();
        x.kind = 0; x.loud = clocks.get(clock).loud; x.bed = bed;
        x.minute = Math.min(399, Math.max(0, set + clocks.get(clock).shift));
        return x;
    }
    int put(Snd x) { if (plan.size() >= 8) return -1; plan.add(x); return plan.size() - 1; }
    int ring(int c, int b, int m) { return isC(c) && isB(b) && in(m, 0, 399) ? put(ringOf(c, b, m)) : -1; }
    int string(int s, int m) {
        if (!isS(s) || !in(m, 0, 399)) return -1;
        Snd x = new Snd(); x.kind = 1; x.minute = m; x.sleeper = s;
        return put(x);
    }
    int pole(int b, int m) {
        if (!isB(b) || !in(m, 0, 399)) return -1;
        Snd x = new Snd(); x.kind = 2; x.minute = m; x.loud = 7; x.bed = b;
        return put(x);
    }
    int drop(int n) { if (!in(n, 0, plan.size() - 1)) return -1; plan.remove(n); return plan.size(); }
    int sound(int n, int what) {
        if (!in(n, 0, plan.size() - 1)) return -1;
        Snd x = plan.get(n);
        int[] all = {x.kind, x.minute, x.loud, x.kind == 1 ? sleepers.get(x.sleeper).bed : x.bed};
        return in(what, 0, 3) ? all[what] : -1;
    }
    boolean wool(int s, boolean on) { if (!isS(s)) return false; sleepers.get(s).wool = on; return true; }
    void exchange(int a, int b) {
        for (Sleeper s : sleepers) s.bed = s.bed == a ? b : s.bed == b ? a : s.bed;
    }
    boolean swap(int a, int b) { if (!isB(a) || !isB(b) || a == b) return false; exchange(a, b); return true; }
    long ways() { return big(100).pow(plan.size()).longValueExact(); }
    long up(int s) { return !isS(s) ? -1 : sleepers.get(s).hour == -2 ? -2 : upWays(s, plan); }
    long woken(int s) { return isS(s) ? wokenWays(s, plan) : -1; }
    long cost() { return costOf(plan); }
    int worst() {
        int best = -2;
        long least = Long.MAX_VALUE;
        for (int i = 0; i < plan.size(); i++) {
            List<Snd> p = new ArrayList<>(plan);
            p.remove(i);
            if (costOf(p) < least) { least = costOf(p); best = i; }
        }
        return best;
    }
    List<Integer> hourList() {
        TreeSet<Integer> t = new TreeSet<>();
        for (Sleeper s : sleepers) if (s.hour != -2) t.add(s.hour);
        return new ArrayList<>(t);
    }
    int hours(int i) {
        List<Integer> h = hourList();
        return i == -1 ? h.size() : in(i, 0, h.size() - 1) ? h.get(i) : -1;
    }
    /** {cost, bed, minute, bed, minute} */
    long[] bestOf(int first, int second, int lead) {
        if (!isC(first) || second != -1 && !isC(second) || first == second || !in(lead, 0, 60)) return new long[] {-1};
        if (hourList().isEmpty() || beds.isEmpty() || plan.size() + (second == -1 ? 1 : 2) > 8) return new long[] {-2};
        long[] best = null;
        for (int b1 = 0; b1 < beds.size(); b1++) for (int h1 : hourList()) {
            List<Snd> p = new ArrayList<>(plan);
            int m1 = Math.max(0, h1 - lead);
            p.add(ringOf(first, b1, m1));
            if (second == -1) {
                long c = costOf(p);
                if (best == null || c < best[0]) best = new long[] {c, b1, m1, -1, -1};
                continue;
            }
            for (int b2 = 0; b2 < beds.size(); b2++) for (int h2 : hourList()) {
                int m2 = Math.max(0, h2 - lead);
                p.add(ringOf(second, b2, m2));
                long c = costOf(p);
                if (best == null || c < best[0]) best = new long[] {c, b1, m1, b2, m2};
                p.remove(p.size() - 1);
            }
        }
        return best;
    }
    long best(int f, int s, int lead) { return bestOf(f, s, lead)[0]; }
    int bestAt(int f, int s, int lead, int what) {
        if (!in(what, 0, 3)) return -1;
        long[] b = bestOf(f, s, lead);
        return (int) (b.length == 1 ? b[0] : b[what + 1]);
    }
    Set<Integer> ringSets(int clock) {
        Set<Integer> sets = new TreeSet<>();
        for (int b = 0; b < beds.size(); b++) for (int h : hourList()) {
            Snd x = ringOf(clock, b, h);
            int bits = 0;
            for (int s = 0; s < sleepers.size(); s++) {
                int hour = sleepers.get(s).hour;
                if (hour != -2 && x.minute <= hour && hearingOf(s, x) == 10 && againOf(s, hour - x.minute) == 0) bits |= 1 << s;
            }
            sets.add(bits);
        }
        return sets;
    }
    int withHour() { int b = 0; for (int s = 0; s < sleepers.size(); s++) if (sleepers.get(s).hour != -2) b |= 1 << s; return b; }
    int fewest(int clock) {
        if (!isC(clock)) return -1;
        Set<Integer> reached = new HashSet<>(List.of(0));
        Set<Integer> sets = ringSets(clock);
        for (int n = 0; n <= 12; n++) {
            if (reached.contains(withHour())) return n;
            Set<Integer> next = new HashSet<>();
            for (int r : reached) for (int s : sets) next.add(r | s);
            reached = next;
        }
        return -2;
    }
    int deaf(int clock) {
        if (!isC(clock)) return -1;
        int d = withHour();
        for (int s : ringSets(clock)) d &= ~s;
        return d;
    }
    int walkOf(int a, int b) {
        Bed x = beds.get(sleepers.get(a).bed), y = beds.get(sleepers.get(b).bed);
        return 1 + Math.abs(x.place - y.place) + 3 * Math.abs(x.floor - y.floor);
    }
    int walk(int a, int b) { return isS(a) && isS(b) ? walkOf(a, b) : -1; }
    List<Integer> eight() {
        List<Integer> e = new ArrayList<>();
        for (int s = 0; s < sleepers.size() && e.size() < 8; s++) if (sleepers.get(s).hour != -2) e.add(s);
        return e;
    }
    int[] bestShakers; int bestShaken, bestWalks;
    void tryShakers(List<Integer> e, int i, int c, int[] used, int[] by, int shaken, int walks) {
        if (i == e.size()) {
            // in the order of trying the first comes first
            if (bestShakers == null || shaken > bestShaken || shaken == bestShaken && walks < bestWalks) {
                bestShakers = by.clone(); bestShaken = shaken; bestWalks = walks;
            }
            return;
        }
        int s = e.get(i);
        for (int a : e) {
            if (a == s || used[a] >= c || sleepers.get(a).hour + walkOf(a, s) > sleepers.get(s).hour) continue;
            used[a]++; by[s] = a;
            tryShakers(e, i + 1, c, used, by, shaken + 1, walks + walkOf(a, s));
            used[a]--; by[s] = -2;
        }
        tryShakers(e, i + 1, c, used, by, shaken, walks);
    }
    void shakeAll(int c) {
        bestShakers = null;
        int[] by = new int[12];
        Arrays.fill(by, -2);
        tryShakers(eight(), 0, c, new int[12], by, 0, 0);
    }
    int shakes(int c, int what) {
        if (!in(c, 1, 2) || !in(what, 0, 1)) return -1;
        shakeAll(c);
        return what == 0 ? bestShaken : bestWalks;
    }
    int shaker(int c, int s) {
        if (!in(c, 1, 2) || !isS(s)) return -1;
        shakeAll(c);
        return bestShakers[s];
    }
    long[] twiceOf(int s, int loud, int k, int w) {
        if (!isS(s) || !in(loud, 1, 12) || !in(k, 1, 3) || !in(w, 0, 30)) return null;
        int hour = sleepers.get(s).hour;
        if (hour == -2 || hour - w < 0 || w + 1 < k) return null;
        long[] best = null;
        int lo = hour - w;
        for (int a = lo; a <= hour; a++) for (int b = k > 1 ? a + 1 : a; b <= (k > 1 ? hour : a); b++)
            for (int c = k > 2 ? b + 1 : b; c <= (k > 2 ? hour : b); c++) {
                int[] at = {a, b, c};
                List<Snd> p = new ArrayList<>();
                for (int i = 0; i < k; i++) {
                    Snd x = new Snd(); x.minute = at[i]; x.loud = loud; x.bed = sleepers.get(s).bed;
                    p.add(x);
                }
                long up = upWays(s, p);
                if (best == null || up > best[0]) best = new long[] {up, a, b, c};
            }
        return best;
    }
    long twice(int s, int loud, int k, int w) { long[] t = twiceOf(s, loud, k, w); return t == null ? -1 : t[0]; }
    int twiceAt(int s, int loud, int k, int w, int i) {
        long[] t = twiceOf(s, loud, k, w);
        return t == null || !in(i, 0, k - 1) ? -1 : (int) t[i + 1];
    }
    int[] swapsOf(int l) {
        long limit = l * ways();
        if (cost() <= limit) return new int[0];
        int n = beds.size();
        for (int a = 0; a < n; a++) for (int b = a + 1; b < n; b++) {
            exchange(a, b);
            long c = cost();
            exchange(a, b);
            if (c <= limit) return new int[] {100 * a + b};
        }
        for (int a = 0; a < n; a++) for (int b = a + 1; b < n; b++) for (int x = 0; x < n; x++) for (int y = x + 1; y < n; y++) {
            exchange(a, b); exchange(x, y);
            long c = cost();
            exchange(x, y); exchange(a, b);
            if (c <= limit) return new int[] {100 * a + b, 100 * x + y};
        }
        return null;
    }
    int swaps(int l) { if (!in(l, 0, 99)) return -1; int[] s = swapsOf(l); return s == null ? -2 : s.length; }
    int swapAt(int l, int i) {
        if (!in(l, 0, 99)) return -1;
        int[] s = swapsOf(l);
        return s == null || !in(i, 0, s.length - 1) ? -1 : s[i];
    }
    long worth(int s) {
        if (!isS(s)) return -1000000000000000000L;
        boolean was = sleepers.get(s).wool;
        sleepers.get(s).wool = false;
        long without = cost();
        sleepers.get(s).wool = true;
        long with = cost();
        sleepers.get(s).wool = was;
        return without - with;
    }
    int whose(int w) {
        if (!in(w, 0, 12)) return -1;
        List<Integer> all = new ArrayList<>();
        for (int s = 0; s < sleepers.size(); s++) if (worth(s) > 0) all.add(s);
        all.sort((a, b) -> Long.compare(worth(b), worth(a)));
        int bits = 0;
        for (int i = 0; i < w && i < all.size(); i++) bits |= 1 << all.get(i);
        return bits;
    }
    int[] bestRound; int bestEnd;
    void tryRound(List<Integer> e, int early, int[] order, int n, int used, int[] whereWhen) {
        if (n == e.size()) {
            if (bestRound == null || whereWhen[1] < bestEnd) { bestRound = order.clone(); bestEnd = whereWhen[1]; }
            return;
        }
        for (int s : e) {
            if ((used >> s & 1) == 1) continue;
            int p = beds.get(sleepers.get(s).bed).place, hour = sleepers.get(s).hour;
            int t = Math.max(whereWhen[1] + Math.abs(p - whereWhen[0]), hour - early);
            if (t > hour) continue;
            order[n] = s;
            tryRound(e, early, order, n + 1, used | 1 << s, new int[] {p, t});
        }
    }
    int round(int e) {
        if (!in(e, 0, 60)) return -1;
        bestRound = null; bestEnd = 0;
        tryRound(eight(), e, new int[eight().size()], 0, 0, new int[] {0, 0});
        return bestRound == null ? -2 : bestEnd;
    }
    int roundAt(int e, int i) {
        if (round(e) < 0) return -1;
        return in(i, 0, bestRound.length - 1) ? bestRound[i] : -1;
    }
    int morning(int s, int weekday, int minute) {
        if (row.size() >= 60 || !isS(s) || !in(weekday, 0, 6) || !in(minute, 0, 400)) return -1;
        Entry e = new Entry(); e.sleeper = s; e.weekday = weekday; e.minute = minute;
        row.add(e);
        return row.size() - 1;
    }
    int annul(int n) {
        if (row.size() >= 60 || !in(n, 0, row.size() - 1) || row.get(n).isVoid) return -1;
        Entry e = new Entry(); e.isVoid = true; e.names = n;
        row.add(e);
        return row.size() - 1;
    }
    List<Entry> known(int n) {
        List<Entry> k = new ArrayList<>(row.subList(0, n));
        for (Entry e : row.subList(0, n)) if (e.isVoid) { k.remove(e); k.remove(row.get(e.names)); }
        return k;
    }
    boolean timely(Entry e) { int h = sleepers.get(e.sleeper).hour; return h == -2 ? e.minute != 400 : e.minute <= h; }
    int alone(int s, int weekday, int n, int what) {
        if (!isS(s) || !in(weekday, 0, 7) || !in(n, 0, row.size()) || !in(what, 0, 1)) return -1;
        int c = 0;
        for (Entry e : known(n)) if (e.sleeper == s && (weekday == 7 || e.weekday == weekday) && (what == 0 || timely(e))) c++;
        return c;
    }
    int mondays(int n, int what) {
        if (!in(n, 0, row.size()) || !in(what, 0, 3)) return -1;
        int[] t = new int[4];
        for (Entry e : known(n)) {
            t[0]++;
            if (e.weekday == 0) t[1]++;
            if (!timely(e)) t[2]++;
            if (e.weekday == 0 && !timely(e)) t[3]++;
        }
        return t[what];
    }
    /** Ways to take u of the m one by one, of which t are marked: by how many marked are taken. */
    long mondayWays(int n, boolean more) {
        if (!in(n, 0, row.size())) return -1;
        int m = mondays(n, 0), u = mondays(n, 1), t = mondays(n, 2), a = mondays(n, 3);
        BigInteger[][] ways = new BigInteger[u + 1][u + 1];
        for (BigInteger[] r : ways) Arrays.fill(r, BigInteger.ZERO);
        ways[0][0] = BigInteger.ONE;
        for (int i = 0; i < m; i++) {
            int marked = i < t ? 1 : 0;
            for (int k = u; k >= 1; k--) for (int x = u; x >= marked; x--) ways[k][x] = ways[k][x].add(ways[k - 1][x - marked]);
        }
        BigInteger sum = BigInteger.ZERO;
        for (int x = more ? a : 0; x <= u; x++) sum = sum.add(ways[u][x]);
        return sum.longValueExact();
    }
    int[] fireOf(int s, int loud, boolean maybe) {
        Set<Integer> awake = new HashSet<>(List.of(s));
        int all = -2;
        for (int minute = 0; minute < 50; minute++) {
            if (awake.size() == sleepers.size() && all == -2) all = minute;
            Set<Integer> next = new HashSet<>(awake);
            for (int x = 0; x < sleepers.size(); x++) for (int y : awake)
                if (hears(x, loud, sleepers.get(y).bed, 0) >= (maybe ? 1 : 10)) next.add(x);
            awake = next;
        }
        int bits = 0;
        for (int x : awake) bits |= 1 << x;
        return new int[] {all, bits};
    }
    int fire(int s, int loud, boolean maybe) { return isS(s) && in(loud, 1, 12) ? fireOf(s, loud, maybe)[0] : -1; }
    int reaches(int s, int loud, boolean maybe) { return isS(s) && in(loud, 1, 12) ? fireOf(s, loud, maybe)[1] : -1; }

    static int lot(int n, int seed, int which) {
        int h = seed;
        for (int v : new int[] {14, which}) {
            h = (h ^ v) * 1103515245 + 12345;
            h = h ^ (h >>> 15);
        }
        return (h >>> 1) % n;
    }
    boolean upOn(int seed, int d, int i) {
        boolean awake = false;
        int last = 0, j = 0;
        for (Snd x : order(plan)) {
            if (x.minute > sleepers.get(i).hour) break;
            if (j >= 1 && awake && lot(10, seed, 1000 * d + 40 * i + 2 * j + 1) < againOf(i, x.minute - last)) awake = false;
            if (!awake && lot(10, seed, 1000 * d + 40 * i + 2 * j) < hearingOf(i, x)) awake = true;
            last = x.minute;
            j++;
        }
        if (awake && lot(10, seed, 1000 * d + 40 * i + 2 * j + 1) < againOf(i, sleepers.get(i).hour - last)) awake = false;
        return awake;
    }
    int day(int seed, int d) {
        if (!in(d, 0, 999)) return -1;
        int bits = 0;
        for (int s = 0; s < sleepers.size(); s++) if (sleepers.get(s).hour != -2 && upOn(seed, d, s)) bits |= 1 << s;
        return bits;
    }
    int days(int seed, int k, int s) {
        if (!in(k, 1, 50) || s != -1 && (!isS(s) || sleepers.get(s).hour == -2)) return -2;
        int c = 0;
        for (int d = 0; d < k; d++) if (s == -1 ? day(seed, d) == withHour() : upOn(seed, d, s)) c++;
        return c;
    }
    boolean hold(int slot) {
        if (!in(slot, 0, 1)) return false;
        List<Snd> p = new ArrayList<>();
        for (Snd x : plan) p.add(x.copy());
        int[] bedOf = new int[sleepers.size()];
        boolean[] w = new boolean[sleepers.size()];
        for (int s = 0; s < bedOf.length; s++) { bedOf[s] = sleepers.get(s).bed; w[s] = sleepers.get(s).wool; }
        slots[slot] = new Object[] {p, bedOf, w, new ArrayList<>(row)};
        return true;
    }
    @SuppressWarnings("unchecked")
    boolean restore(int slot) {
        if (!in(slot, 0, 1) || slots[slot] == null) return false;
        plan = new ArrayList<>((List<Snd>) slots[slot][0]);
        int[] bedOf = (int[]) slots[slot][1];
        boolean[] w = (boolean[]) slots[slot][2];
        for (int s = 0; s < bedOf.length; s++) { sleepers.get(s).bed = bedOf[s]; sleepers.get(s).wool = w[s]; }
        row = new ArrayList<>((List<Entry>) slots[slot][3]);
        return true;
    }
    int count(int what) {
        int w = 0;
        for (Sleeper s : sleepers) if (s.wool) w++;
        int held = (slots[0] != null ? 1 : 0) + (slots[1] != null ? 1 : 0);
        int[] all = {beds.size(), clocks.size(), sleepers.size(), plan.size(), row.size(), w, tape.length(), held};
        return in(what, 0, 7) ? all[what] : -1;
    }
}
