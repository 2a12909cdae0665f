import java.lang.reflect.Method;
import java.util.ArrayList;
import java.util.HashMap;
import java.util.List;
import java.util.Map;
import java.util.Random;

/** Runs of calls by lots, the same ones on WakeHouse and on Model: every answer must be the same. */
public final class ModelTest {
    private static final String[] NAMES = {"a", "b", "c", "d", "e", "f", "g", "h", "i", "j", "k", "l", "abcdefgh", "zz",
        "m", "n", "o", "p", "q", "r", "s", "t", "u", "v", "w", "x", "y", "z", "aa", "ab", "ac", "ad", "ae", "af", "ag", "ah"};
    private static int wrong = 0;
    private static long calls = 0;
    private final Random random;
    private final WakeHouse house = new WakeHouse();
    private final Model model = new Model();
    private final List<String> log = new ArrayList<>();
    private static final Map<String, Method> MODEL = new HashMap<>();

    static {
        for (Method m : Model.class.getDeclaredMethods()) {
            MODEL.merge(m.getName() + m.getParameterCount(), m, (x, y) -> x);
        }
    }

    ModelTest(long seed) {
        random = new Random(seed);
    }

    public static void main(String[] args) throws Exception {
        int runs = args.length > 0 ? Integer.parseInt(args[0]) : 400;
        long first = args.length > 1 ? Long.parseLong(args[1]) : 0;
        for (long run = first; run < first + runs && wrong < 5; run++) {
            new ModelTest(run).run();
        }
        System.out.println(calls + " calls, " + wrong + " wrong");
        if (wrong != 0) System.exit(1);
    }

    private void run() throws Exception {
        int before = wrong;
        if (random.nextInt(8) == 0) {
            ties();
            return;
        }
        int texts = 1 + random.nextInt(3);
        for (int t = 0; t < texts && wrong == before; t++) {
            for (int bad = random.nextInt(12); bad > 8 && wrong == before; bad--) {
                tell(spoil(text()));
            }
            tell(random.nextInt(5) == 0 ? crowd() : text());
            int n = 20 + random.nextInt(120);
            for (int i = 0; i < n && wrong == before; i++) {
                if (log.size() > 505) return;
                randomCall();
            }
        }
    }

    /** Many with an hour, close to one another: of SHAKES, THE ROUND and the like there are many as good. */
    private void ties() throws Exception {
        int before = wrong;
        for (int t = 0; t < 6 && wrong == before; t++) {
            StringBuilder s = new StringBuilder();
            int n = 4 + random.nextInt(6);
            int places = 1 + random.nextInt(4);
            int start = 3 + random.nextInt(20);
            int hours = 2 + random.nextInt(12);
            for (int i = 0; i < n; i++) s.append("bed ").append(NAMES[i]).append(" 0 ").append(random.nextInt(places)).append(";");
            for (int i = 0; i < n; i++) {
                s.append("sleeper ").append(NAMES[12 + i]).append(" in ").append(NAMES[i]).append(" deep 0");
                if (random.nextInt(9) > 0) s.append(" up ").append(start + random.nextInt(hours)).append(" late 1");
                s.append(";");
            }
            s.append("clock k").append(" ").append(number(9, 12)).append(";again [").append(number(0, 5)).append(" < after];");
            tell(s.toString());
            for (int c = 1; c <= 2; c++) {
                for (int what = 0; what < 2; what++) call("shakes", c, what);
                for (int i = 0; i < n; i++) call("shaker", c, i);
            }
            for (int e = 0; e < 9; e += 4) {
                call("round", e);
                for (int i = 0; i < n; i++) call("roundAt", e, i);
            }
            call("fewest", 0);
            call("deaf", 0);
        }
    }

    private int upTo(int n) {
        return random.nextInt(n + 1);
    }

    private String number(int least, int most) {
        return Integer.toString(least + random.nextInt(most - least + 1));
    }

    private String text() {
        StringBuilder s = new StringBuilder();
        int beds = 1 + upTo(random.nextInt(3) == 0 ? 11 : 6);
        int clocks = random.nextInt(6) == 0 ? 0 : 1 + upTo(2);
        int sleepers = random.nextInt(3) == 0 ? beds : 1 + upTo(beds - 1);
        int spread = new int[] {399, 100, 30, 6}[random.nextInt(4)];
        int base = upTo(399 - spread);
        List<String> tells = new ArrayList<>();
        for (int i = 0; i < beds; i++) tells.add("bed " + NAMES[i] + " " + number(0, random.nextInt(3)) + " " + number(0, 9) + ";");
        for (int i = 0; i < clocks; i++) {
            String way = new String[] {"", "fast " + number(0, 30), "slow " + number(0, 30)}[random.nextInt(3)];
            tells.add("clock " + NAMES[12 + i] + " " + number(1, 12) + " " + way + ";");
        }
        List<Integer> free = new ArrayList<>();
        for (int i = 0; i < beds; i++) free.add(i);
        for (int i = 0; i < sleepers; i++) {
            int bed = free.remove(random.nextInt(free.size()));
            String duty = new String[] {"", "vain " + number(0, 9), "up " + (base + upTo(spread)) + " late " + number(0, 9)}[Math.min(2, random.nextInt(6))];
            tells.add("sleeper " + NAMES[20 + i] + " in " + NAMES[bed] + " deep " + number(0, 9) + " " + duty + ";");
        }
        int laws = random.nextInt(3);
        for (int i = 0; i < laws; i++) tells.add(random.nextInt(tells.size() + 1), "hears " + hearsLaw() + ";");
        laws = random.nextInt(3);
        for (int i = 0; i < laws; i++) tells.add(random.nextInt(tells.size() + 1), "again " + againLaw() + ";");
        for (String t : tells) s.append(t).append(random.nextInt(3) == 0 ? "\n" : "");
        return s.toString();
    }

    private String hearsLaw() {
        switch (random.nextInt(5)) {
            case 0: return "loud - gap - deep / 2 + hour - wool * " + number(1, 5);
            case 1: return "loud + " + number(0, 8) + " - floors * 2 - gap / 2";
            case 2: return "10 - [gap < 2] * 3 - wool*deep";
            case 3: return "loud * 10 / gap";
            default: return expr(0);
        }
    }

    private String againLaw() {
        switch (random.nextInt(5)) {
            case 0: return "[10 < after] * (after - 10) / 3";
            case 1: return "after / 5 + deep / 3";
            case 2: return "[" + number(1, 50) + " < after] * deep";
            case 3: return "(3)";
            default: return expr(0);
        }
    }

    private String expr(int depth) {
        StringBuilder s = new StringBuilder(part(depth));
        for (int i = random.nextInt(3); i > 0; i--) s.append(random.nextBoolean() ? " + " : "-").append(part(depth));
        return s.toString();
    }

    private String part(int depth) {
        StringBuilder s = new StringBuilder(unit(depth));
        for (int i = random.nextInt(3); i > 0; i--) s.append(random.nextInt(3) > 0 ? "*" : " / ").append(unit(depth));
        return s.toString();
    }

    private String unit(int depth) {
        int which = random.nextInt(depth > 5 ? 4 : 6);
        if (which < 2) return number(0, random.nextInt(4) == 0 ? 9999 : 9);
        if (which < 4) return new String[] {"loud", "gap", "floors", "hour", "deep", "wool", "after"}[random.nextInt(7)];
        if (which == 4) return "(" + expr(depth + 1) + ")";
        return "[" + expr(depth + 1) + (random.nextBoolean() ? "<" : " == ") + expr(depth + 1) + "]";
    }

    /** Many of one kind, or very deep, or very long. */
    private String crowd() {
        StringBuilder s = new StringBuilder();
        int kind = random.nextInt(5);
        if (kind == 0) for (int i = 0; i < 11 + random.nextInt(4); i++) s.append("bed ").append(NAMES[i]).append(" 0 ").append(i % 10).append(";");
        if (kind == 1) for (int i = 0; i < 8 + random.nextInt(4); i++) s.append("clock ").append(NAMES[i]).append(" 5;");
        if (kind == 2) {
            for (int i = 0; i < 12; i++) s.append("bed ").append(NAMES[i]).append(" ").append(i % 4).append(" ").append(i % 10).append(";");
            for (int i = 0; i < 2; i++) s.append("clock ").append(NAMES[33 + i]).append(" ").append(number(6, 12)).append(";");
            int n = 11 + random.nextInt(3);
            for (int i = 0; i < n; i++) s.append("sleeper ").append(NAMES[12 + i]).append(" in ").append(NAMES[Math.min(11, i)]).append(" deep ")
                .append(number(0, 9)).append(" up ").append(number(0, 399)).append(" late ").append(number(0, 9)).append(";");
        }
        if (kind == 3) {
            int n = 5 + random.nextInt(4);
            s.append("hears ");
            for (int i = 0; i < n; i++) s.append("([".charAt(i % 2));
            s.append("1");
            for (int i = n - 1; i >= 0; i--) s.append(i % 2 == 0 ? ")" : "<2]");
            s.append(";");
        }
        if (kind == 4) {
            s.append("hears 1");
            int n = 196 + random.nextInt(6);
            for (int i = 0; i < n; i++) s.append("+1");
            s.append(random.nextBoolean() ? ";" : " ; ;");
        }
        return s.toString();
    }

    private String spoil(String s) {
        StringBuilder b = new StringBuilder(s);
        String signs = "abcz019;+-*/<=()[] \n\t\r$A.";
        for (int n = random.nextInt(3); n >= 0; n--) {
            if (b.length() == 0) return b.toString();
            int at = random.nextInt(b.length());
            switch (random.nextInt(8)) {
                case 0: b.deleteCharAt(at); break;
                case 1: b.insert(at, signs.charAt(random.nextInt(signs.length()))); break;
                case 2: b.setCharAt(at, signs.charAt(random.nextInt(signs.length()))); break;
                case 3: b.setLength(at); break;
                case 4: b.setCharAt(at, (char) random.nextInt(256)); break;
                case 5: rename(b, at); break;
                case 6:
                    String[] tells = b.toString().split(";");
                    b.append(tells[random.nextInt(tells.length)]).append(';');
                    break;
                default:
                    int digit = at;
                    while (digit < b.length() && !Character.isDigit(b.charAt(digit))) digit++;
                    b.insert(Math.min(digit, b.length()), number(0, 9));
            }
        }
        return b.toString();
    }

    /** The next word of one letter becomes another one. */
    private void rename(StringBuilder b, int from) {
        for (int i = from + 1; i + 1 < b.length(); i++) {
            if (b.charAt(i - 1) == ' ' && Character.isLetter(b.charAt(i)) && b.charAt(i + 1) == ' ') {
                b.setCharAt(i, (char) ('a' + random.nextInt(26)));
                return;
            }
        }
    }

    private void tell(String s) throws Exception {
        if (s.length() > 2000) return;
        if (model.tape.length() > 0) call("back", model.tape.length());
        StringBuilder padded = new StringBuilder(s);
        while (padded.length() % 20 != 0) padded.append((char) random.nextInt(256));
        for (int i = 0; i < padded.length(); i += 20) {
            int[] five = new int[5];
            for (int j = 0; j < 20; j++) five[j / 4] = five[j / 4] << 8 | padded.charAt(i + j);
            call("feed", five[0], five[1], five[2], five[3], five[4]);
        }
        call("back", padded.length() - s.length());
        call("read");
        call("place");
        for (int i = 0; i < 9; i++) call("count", i);
    }

    private static final int[] EXTREMES = {Integer.MIN_VALUE, Integer.MAX_VALUE, -2, -400, 1000, 1 << 20, Integer.MIN_VALUE + 1};

    private int near(int count) {
        if (random.nextInt(60) == 0) return EXTREMES[random.nextInt(EXTREMES.length)];
        return random.nextInt(15) == 0 ? random.nextInt(3) - 1 + random.nextInt(2) * count : count == 0 ? 0 : random.nextInt(count);
    }
    private int sleeper() { return near(model.sleepers.size()); }
    private int bed() { return near(model.beds.size()); }
    private int clock() { return near(model.clocks.size()); }
    private int loud() { return 1 + near(12); }
    private int minute() {
        List<Integer> hours = model.hourList();
        if (!hours.isEmpty() && random.nextInt(3) > 0) return hours.get(random.nextInt(hours.size())) - random.nextInt(30) + random.nextInt(5);
        return near(400);
    }

    private void randomCall() throws Exception {
        int what = random.nextInt(60);
        switch (what) {
            case 0: call("feed", random.nextInt(), 1, 2, 3, 4); break;
            case 1: call("back", near(10) - random.nextInt(2)); break;
            case 2: call("place"); break;
            case 3: call("of", sleeper(), near(6)); break;
            case 4: call("lies", bed()); break;
            case 5: call("hears", sleeper(), loud(), bed(), near(400)); break;
            case 6: call("again", sleeper(), near(400)); break;
            case 7: case 8: case 9: call("ring", clock(), bed(), minute()); break;
            case 10: case 11: call("string", sleeper(), minute()); break;
            case 12: case 13: call("pole", bed(), minute()); break;
            case 14: case 15: call("drop", near(model.plan.size())); break;
            case 16: call("sound", near(model.plan.size()), near(4)); break;
            case 17: case 18: call("wool", sleeper(), random.nextBoolean()); break;
            case 19: case 20: call("swap", bed(), bed()); break;
            case 21: call("ways"); break;
            case 22: case 23: call("up", sleeper()); break;
            case 24: call("woken", sleeper()); break;
            case 25: call("cost"); break;
            case 26: call("worst"); break;
            case 27: call("hours", near(model.hourList().size()) - random.nextInt(2)); break;
            case 28: bestCall(); break;
            case 29: call("fewest", clock()); break;
            case 30: call("deaf", clock()); break;
            case 31: call("walk", sleeper(), sleeper()); break;
            case 32: call("shakes", 1 + near(2), near(2)); break;
            case 33: case 34: call("shaker", 1 + near(2), sleeper()); break;
            case 35: twiceCall(); break;
            case 36: case 37: swapsCall(); break;
            case 38: call("worth", sleeper()); break;
            case 39: call("whose", near(13)); break;
            case 40: case 41: roundCall(); break;
            case 42: case 43: case 44: call("morning", sleeper(), near(7) % 3, near(401)); break;
            case 45: case 46: call("annul", near(model.row.size())); break;
            case 47: case 48: call("alone", sleeper(), near(8), near(model.row.size() + 1), near(2)); break;
            case 49: call("mondays", near(model.row.size() + 1), near(4)); break;
            case 50: call("mondayWays", near(model.row.size() + 1), random.nextBoolean()); break;
            case 51: call("fire", sleeper(), loud(), random.nextBoolean()); break;
            case 52: call("reaches", sleeper(), loud(), random.nextBoolean()); break;
            case 53: call("day", random.nextInt(), near(1000)); break;
            case 54: case 55: call("days", random.nextInt(), 1 + near(50), sleeper() - random.nextInt(2)); break;
            case 56: call("hold", near(2)); break;
            case 57: call("restore", near(2)); break;
            case 58: call("count", near(8)); break;
            default:
                for (int i = random.nextInt(40); i > 0 && log.size() < 500; i--) {
                    if (random.nextInt(4) == 0) call("annul", near(model.row.size()));
                    else call("morning", sleeper(), near(7) % 3, minute());
                }
        }
    }

    private void bestCall() throws Exception {
        int lead = random.nextInt(3) == 0 ? near(61) : 0;
        boolean small = model.beds.size() * model.hourList().size() <= 20 && model.plan.size() < 5;
        int second = small && random.nextInt(3) > 0 ? clock() : -1;
        int first = clock();
        call("best", first, second, lead);
        for (int i = 0; i < 5; i++) call("bestAt", first, second, lead, i);
    }

    private void twiceCall() throws Exception {
        int s = sleeper(), loud = loud(), k = 1 + near(3);
        int w = k > 2 ? near(9) : near(31);
        call("twice", s, loud, k, w);
        for (int i = 0; i < 4; i++) call("twiceAt", s, loud, k, w, i);
    }

    private void swapsCall() throws Exception {
        if (model.plan.size() > 4 || model.beds.size() > 9) return;
        int l = (int) (model.cost() / model.ways()) - random.nextInt(4);
        call("swaps", l);
        for (int i = 0; i < 3; i++) call("swapAt", l, i);
    }

    private void roundCall() throws Exception {
        int e = random.nextBoolean() ? 30 + near(31) : random.nextBoolean() ? near(12) : near(61);
        call("round", e);
        for (int i = 0; i < 9; i++) call("roundAt", e, i);
    }

    private void call(String name, Object... args) throws Exception {
        Class<?>[] kinds = new Class<?>[args.length];
        StringBuilder said = new StringBuilder("x." + name + "(");
        for (int i = 0; i < args.length; i++) {
            kinds[i] = args[i] instanceof Boolean ? boolean.class : int.class;
            said.append(i > 0 ? ", " : "").append(args[i]);
        }
        Object due = MODEL.get(name + args.length).invoke(model, args);
        Object got = WakeHouse.class.getMethod(name, kinds).invoke(house, args);
        log.add(said + ") -> " + got);
        calls++;
        if (!due.equals(got)) {
            wrong++;
            for (String line : log) System.out.println(line);
            System.out.println("due is " + due);
        }
    }
}
