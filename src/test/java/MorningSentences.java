import java.math.BigInteger;

/** Part IV of the Terms and promises 38 to 49: MORNINGS, FIRE, LOTS, SLOTS. */
final class MorningSentences extends Sentences {
    private static final int MIN = Integer.MIN_VALUE;
    private static final int MAX = Integer.MAX_VALUE;
    /** p has an HOUR, q has none. */
    private static final String TWO = "bed a 0 0; bed b 0 2; sleeper p in a deep 0 up 60 late 1; sleeper q in b deep 0 vain 1;";

    static void all() {
        morning();
        annul();
        alone();
        mondays();
        mondayWays();
        fire();
        reaches();
        lot();
        day();
        days();
        holding();
        counting();
    }

    private static void morning() {
        sentence(38, "MORNINGS, numbered from 0 on, 60 at most:");
        WakeHouse x = house(TWO);
        for (int i = 0; i < 60; i++) due(x.morning(i % 2, i % 7, 5 * i), i);
        due(x.morning(0, 0, 0), -1);
        due(x.count(4), 60);

        sentence(38, "a SLEEPER woke by himself, on a WEEKDAY (0 .. 6, 0 is Monday), at a MINUTE (400: not at all).");
        x = house(TWO);
        due(x.morning(0, 0, 0), 0);
        due(x.morning(0, 6, 399), 1);
        due(x.morning(1, 3, 400), 2);
        for (int day = 0; day <= 6; day++) due(x.alone(0, day, 3, 0), day == 0 || day == 6 ? 1 : 0);
        due(x.mondays(3, 1), 1);
        due(x.alone(1, 3, 3, 1), 0);

        sentence(38, "A MORNING: its number.");
        due(x.morning(1, 1, 1), 3);
        due(x.annul(0), 4);
        due(x.morning(1, 1, 1), 5);

        sentence(38, "NONE, and nothing happens: 60 are there, no such ones.");
        String state = look(x);
        for (int sleeper : new int[] {-1, 2, MIN, MAX}) due(x.morning(sleeper, 0, 0), -1);
        for (int day : new int[] {-1, 7, MIN, MAX}) due(x.morning(0, day, 0), -1);
        for (int minute : new int[] {-1, 401, MIN, MAX}) due(x.morning(0, 0, minute), -1);
        same(look(x), state);
        for (int i = 6; i < 60; i++) due(i % 3 == 0 ? x.annul(1) : x.morning(0, 1, 0), i);
        state = look(x);
        due(x.morning(0, 1, 0), -1);
        same(look(x), state);
    }

    private static void annul() {
        sentence(39, "VOIDS stand in one row with them.");
        WakeHouse x = house(TWO);
        x.morning(0, 0, 0);
        due(x.annul(0), 1);
        due(x.morning(0, 0, 0), 2);
        due(x.annul(2), 3);
        due(x.count(4), 4);
        due(x.alone(0, 7, 4, 0), 0);

        sentence(39, "A VOID: its number.");
        due(x.annul(0), 4);
        due(x.annul(2), 5);

        sentence(39, "NONE, and nothing happens: 60 are there, no such MORNING, a VOID.");
        String state = look(x);
        for (int morning : new int[] {-1, 6, 7, 60, MIN, MAX}) due(x.annul(morning), -1);
        for (int morning : new int[] {1, 3, 4, 5}) due(x.annul(morning), -1);
        same(look(x), state);
        due(x.morning(0, 0, 0), 6);
        for (int i = 7; i < 60; i++) due(i % 3 == 0 ? x.annul(6) : x.morning(0, 1, 0), i);
        state = look(x);
        due(x.annul(0), -1);
        due(x.annul(6), -1);
        same(look(x), state);
        due(new WakeHouse().annul(0), -1);
    }

    private static void alone() {
        sentence(40, "As KNOWN by n: the first n of them, without those that a VOID among them names (no VOID).");
        WakeHouse x = house(TWO);
        x.morning(0, 0, 10);
        x.morning(0, 0, 20);
        x.annul(0);
        x.morning(0, 0, 30);
        x.annul(3);
        x.annul(0);
        int[] known = {0, 1, 2, 1, 2, 1, 1};
        for (int n = 0; n <= 6; n++) {
            due(x.alone(0, 7, n, 0), known[n]);
            due(x.mondays(n, 0), known[n]);
        }

        sentence(40, "ALONE: of his MORNINGS how many he woke at his HOUR or ahead (without one: at all).");
        x = house(TWO);
        int[] minutes = {59, 60, 61, 0, 399, 400};
        for (int minute : minutes) {
            x.morning(0, 1, minute);
            x.morning(1, 1, minute);
        }
        due(x.alone(0, 7, 12, 0), 6);
        due(x.alone(0, 7, 12, 1), 3);
        due(x.alone(1, 7, 12, 0), 6);
        due(x.alone(1, 7, 12, 1), 5);
        int[] early = {0, 1, 2, 2, 3, 3, 3};
        int[] atAll = {0, 1, 2, 3, 4, 5, 5};
        for (int i = 0; i <= 6; i++) {
            due(x.alone(0, 7, 2 * i, 1), early[i]);
            due(x.alone(1, 7, 2 * i, 1), atAll[i]);
        }
        x = house("bed a 0 0; sleeper p in a deep 0 up 399 late 1;");
        x.morning(0, 0, 399);
        x.morning(0, 0, 400);
        due(x.alone(0, 7, 2, 1), 1);

        sentence(40, "ALONE, as KNOWN by n, on a WEEKDAY (7: all): what 0 how many MORNINGS, 1 how many of waking in time;");
        x = house(TWO);
        for (int day = 0; day <= 6; day++) {
            for (int i = 0; i <= day; i++) x.morning(0, day, 60 + i % 2);
        }
        for (int day = 0; day <= 6; day++) {
            due(x.alone(0, day, 28, 0), day + 1);
            due(x.alone(0, day, 28, 1), day / 2 + 1);
            due(x.alone(1, day, 28, 0), 0);
        }
        due(x.alone(0, 7, 28, 0), 28);
        due(x.alone(0, 7, 28, 1), 1 + 1 + 2 + 2 + 3 + 3 + 4);
        due(x.alone(0, 6, 21, 0), 0);
        due(x.alone(0, 6, 22, 0), 1);

        sentence(40, "NONE: no such ones.");
        for (int sleeper : new int[] {-1, 2, MIN, MAX}) due(x.alone(sleeper, 7, 1, 0), -1);
        for (int day : new int[] {-1, 8, MIN, MAX}) due(x.alone(0, day, 1, 0), -1);
        for (int n : new int[] {-1, 29, 60, MIN, MAX}) due(x.alone(0, 7, n, 0), -1);
        for (int what : new int[] {-1, 2, MIN, MAX}) due(x.alone(0, 7, 1, what), -1);
        due(x.alone(0, 7, 0, 0), 0);
        due(house(TWO).alone(0, 7, 0, 1), 0);
        due(house(TWO).alone(0, 7, 1, 1), -1);
    }

    private static WakeHouse sixty(int mondays, int late, int both) {
        WakeHouse x = house(TWO);
        for (int i = 0; i < 60; i++) {
            boolean monday = i < mondays;
            boolean isLate = i < both || i >= mondays && i - mondays < late - both;
            x.morning(0, monday ? 0 : 1 + i % 6, isLate ? 61 : 60);
        }
        return x;
    }

    private static void mondays() {
        sentence(41, "MONDAYS: of m MORNINGS of all SLEEPERS u are Mondays, t are ones that are not of waking in time as ALONE tells it, a both:");
        WakeHouse x = house(TWO);
        int[][] rows = {{0, 0, 61}, {0, 0, 60}, {0, 1, 400}, {0, 6, 0}, {1, 0, 400}, {1, 0, 399}, {1, 5, 400}};
        int[][] due = {{0, 0, 0, 0}, {1, 1, 1, 1}, {2, 2, 1, 1}, {3, 2, 2, 1}, {4, 2, 2, 1}, {5, 3, 3, 2}, {6, 4, 3, 2}, {7, 4, 4, 2}};
        for (int[] row : rows) x.morning(row[0], row[1], row[2]);
        for (int n = 0; n <= 7; n++) {
            for (int what = 0; what <= 3; what++) due(x.mondays(n, what), due[n][what]);
        }

        sentence(41, "MONDAYS, as KNOWN by n: what 0 m, 1 u, 2 t, 3 a;");
        x.annul(0);
        int[] less = {6, 3, 3, 1};
        for (int what = 0; what <= 3; what++) {
            due(x.mondays(8, what), less[what]);
            due(x.mondays(7, what), due[7][what]);
        }

        sentence(41, "NONE: no such n, what.");
        for (int n : new int[] {-1, 9, 60, MIN, MAX}) due(x.mondays(n, 0), -1);
        for (int what : new int[] {-1, 4, MIN, MAX}) due(x.mondays(1, what), -1);
        WakeHouse full = sixty(1, 1, 1);
        due(full.mondays(60, 0), 60);
        due(full.mondays(61, 0), -1);
    }

    private static BigInteger choose(int n, int k) {
        BigInteger c = BigInteger.ONE;
        if (k < 0 || k > n) return BigInteger.ZERO;
        for (int i = 0; i < k; i++) c = c.multiply(BigInteger.valueOf(n - i)).divide(BigInteger.valueOf(i + 1));
        return c;
    }

    private static void mondayWays() {
        sentence(42, "of all ways to take u of the m those by which a or more of the t are taken.");
        int[][] cases = {{30, 30, 15}, {30, 30, 30}, {30, 30, 0}, {0, 60, 0}, {60, 0, 0}, {60, 60, 60}, {1, 1, 1}, {1, 59, 0}, {59, 1, 1}, {20, 7, 3}, {29, 31, 14}};
        for (int[] c : cases) {
            BigInteger ways = BigInteger.ZERO;
            for (int taken = c[2]; taken <= c[0]; taken++) ways = ways.add(choose(c[1], taken).multiply(choose(60 - c[1], c[0] - taken)));
            WakeHouse x = sixty(c[0], c[1], c[2]);
            due(x.mondays(60, 1), c[0]);
            due(x.mondays(60, 2), c[1]);
            due(x.mondays(60, 3), c[2]);
            due(x.mondayWays(60, true), ways.longValueExact());
            due(x.mondayWays(60, false), choose(60, c[0]).longValueExact());
        }

        sentence(42, "Its ways (more), else all;");
        WakeHouse x = house(TWO);
        due(x.mondayWays(0, true), 1);
        due(x.mondayWays(0, false), 1);
        x.morning(0, 0, 61);
        x.morning(0, 0, 60);
        x.morning(0, 1, 60);
        x.morning(0, 2, 61);
        // 2 of 4, of which 2 are late: by 6 ways, by 5 of them one of these or both
        due(x.mondayWays(4, false), 6);
        due(x.mondayWays(4, true), 5);
        due(x.mondayWays(1, true), 1);
        x.annul(0);
        due(x.mondayWays(5, false), 3);
        due(x.mondayWays(5, true), 3);

        sentence(42, "-1: no such n.");
        for (int n : new int[] {-1, 6, 60, MIN, MAX}) {
            due(x.mondayWays(n, true), -1);
            due(x.mondayWays(n, false), -1);
        }
    }

    private static void fire() {
        sentence(43, "FIRE: a SLEEPER is awake at minute 0 and cries, as all who are awake do, by a LOUD (1 .. 12), from his BED, once each minute:");
        String row = "bed a 0 0; bed b 0 2; bed c 0 4; bed d 0 6; sleeper p in a deep 0; sleeper q in b deep 0; sleeper r in c deep 0; sleeper s in d deep 0;";
        WakeHouse x = house(row);
        due(x.fire(0, 12, false), 3);
        due(x.fire(1, 12, false), 2);
        due(x.fire(2, 12, false), 2);
        due(x.fire(3, 12, false), 3);
        x.swap(0, 1);
        due(x.fire(0, 12, false), 2);
        due(x.fire(0, 1, true), -2);
        due(x.fire(0, 1, false), -2);

        sentence(43, "who is asleep and hears one of these cries SURELY (10; at MINUTE 0 of the night, with his WOOL) is awake a minute later.");
        x = house(row);
        due(x.fire(0, 11, false), -2);
        x = house(row + "hears [hour == 0] * 10 + [hour == 6] * 9;");
        due(x.fire(0, 1, false), 1);
        x = house(row + "hears [0 < hour] * 10;");
        due(x.fire(0, 12, false), -2);
        x = house(row + "hears loud - gap + 4 - wool;");
        due(x.fire(0, 8, false), 3);
        x.wool(3, true);
        due(x.fire(0, 8, false), -2);
        due(x.fire(3, 8, false), 3);
        due(x.fire(0, 9, false), 3);
        // who cries has WOOL too, that is no matter to the others
        x.wool(3, false);
        x.wool(0, true);
        due(x.fire(0, 8, false), 3);
        due(x.fire(1, 8, false), -2);

        sentence(43, "MAYBE: 1 is enough.");
        x = house(row);
        due(x.fire(0, 3, true), 3);
        due(x.fire(0, 2, true), -2);
        due(x.fire(0, 5, true), 2);
        due(x.fire(0, 7, true), 1);

        sentence(43, "ALL: the minute at which all SLEEPERS are awake.");
        due(house("bed a 0 0; sleeper p in a deep 0;").fire(0, 1, false), 0);
        // all twelve in one row, round the corner: eleven minutes from end to end
        StringBuilder s = new StringBuilder();
        for (int i = 0; i < 12; i++) s.append("bed b").append((char) ('a' + i)).append(i < 10 ? " 0 " + i : " " + (i - 9) + " 9").append(";");
        x = house(s + sleepers(12, "") + "hears [gap + floors == 1] * 10;");
        for (int i = 0; i < 12; i++) due(x.fire(i, 1, false), Math.max(i, 11 - i));
        x.wool(11, true);
        due(x.fire(0, 12, true), 11);

        sentence(43, "FIRE: ALL (maybe: MAYBE);");
        x = house("bed a 0 0; bed b 0 0; sleeper p in a deep 0; sleeper q in b deep 0; hears 9;");
        due(x.fire(0, 1, true), 1);
        due(x.fire(0, 1, false), -2);

        sentence(43, "-2: never;");
        due(house("bed a 0 0; bed b 0 0; sleeper p in a deep 0; sleeper q in b deep 0; hears 0;").fire(0, 12, true), -2);

        sentence(43, "NONE: no such SLEEPER, LOUD.");
        for (int sleeper : new int[] {-1, 2, MIN, MAX}) due(x.fire(sleeper, 1, true), -1);
        for (int loud : new int[] {0, 13, -1, MIN, MAX}) due(x.fire(0, loud, true), -1);
        due(x.fire(0, 12, true), 1);
    }

    private static void reaches() {
        sentence(44, "SLEEPERS (bits) that are ever awake by it;");
        WakeHouse x = house("bed a 0 0; bed b 0 2; bed c 0 5; bed d 0 7; sleeper p in a deep 0; sleeper q in b deep 0; sleeper r in c deep 0; sleeper s in d deep 0;");
        due(x.reaches(0, 12, false), 3);
        due(x.reaches(1, 12, false), 3);
        due(x.reaches(3, 12, false), 12);
        due(x.reaches(2, 9, false), 4);
        due(x.reaches(0, 4, true), 15);
        due(x.reaches(0, 3, true), 3);
        due(x.reaches(0, 2, true), 1);
        due(x.reaches(3, 1, true), 8);
        StringBuilder s = new StringBuilder();
        for (int i = 0; i < 12; i++) s.append("bed b").append((char) ('a' + i)).append(" 0 ").append(i % 10).append(";");
        due(house(s + sleepers(12, "")).reaches(11, 11, false), 4095);

        sentence(44, "NONE likewise.");
        for (int sleeper : new int[] {-1, 4, MIN, MAX}) due(x.reaches(sleeper, 1, true), -1);
        for (int loud : new int[] {0, 13, -1, MIN, MAX}) due(x.reaches(0, loud, true), -1);
    }

    /** The document's LOT by numbers without end, cut to 32 bits where it says so. */
    private static int lot(int n, int seed, int which) {
        BigInteger word = BigInteger.ONE.shiftLeft(32);
        BigInteger h = BigInteger.valueOf(seed).mod(word);
        for (int it : new int[] {14, which}) {
            h = h.xor(BigInteger.valueOf(it)).multiply(BigInteger.valueOf(1103515245)).add(BigInteger.valueOf(12345)).mod(word);
            h = h.xor(h.shiftRight(15));
        }
        return h.shiftRight(1).mod(BigInteger.valueOf(n)).intValue();
    }

    private static final int[] SEEDS = {0, 1, -1, 14, 7, 123456789, -987654321, MIN, MAX};

    private static void lot() {
        sentence(45, "LOT n of a SEED and a which: h is the SEED; for each of 14, which: h becomes (h and it, each bit of which is in just one)"
            + " times 1103515245 and 12345 more, then h and h moved 15 bits down (zeros come in), likewise;");
        // 5 of ten times heard, never asleep again: up just where the first LOT is below 5
        WakeHouse x = house("bed a 0 0; sleeper p in a deep 0 up 60 late 1; hears 5;");
        x.pole(0, 60);
        for (int seed : SEEDS) {
            for (int d = 0; d < 20; d++) due(x.day(seed, d), lot(10, seed, 1000 * d) < 5 ? 1 : 0);
            due(x.day(seed, 999), lot(10, seed, 999000) < 5 ? 1 : 0);
        }

        sentence(45, "the rest of h, moved 1 bit down likewise, by n (32 bits that wrap).");
        for (int heard = 0; heard <= 10; heard++) {
            x = house("bed a 0 0; sleeper p in a deep 0 up 60 late 1; hears " + heard + ";");
            x.pole(0, 60);
            for (int d = 0; d < 20; d++) due(x.day(-5, d), lot(10, -5, 1000 * d) < heard ? 1 : 0);
        }
    }

    private static void day() {
        sentence(45, "A DAY by LOTS (d, of a SEED): SLEEPER i at the j-th SOUND in order:");
        WakeHouse x = house(beds(12) + sleepers(12, "up 60 late 1") + "hears 4;");
        x.pole(0, 60);
        x.pole(0, 30);
        for (int d = 0; d < 10; d++) {
            int up = 0;
            for (int i = 0; i < 12; i++) {
                boolean awake = lot(10, 3, 1000 * d + 40 * i) < 4 || lot(10, 3, 1000 * d + 40 * i + 2) < 4;
                up |= awake ? 1 << i : 0;
            }
            due(x.day(3, d), up);
        }
        // a STRING at the same MINUTE for another: it has its place in the order
        x = house(beds(2) + sleepers(2, "up 60 late 1") + "hears 4;");
        x.string(1, 60);
        x.pole(0, 60);
        for (int d = 0; d < 10; d++) due(x.day(3, d), (lot(10, 3, 1000 * d + 2) < 4 ? 1 : 0) + 2);

        sentence(45, "asleep AGAIN if LOT 10 of which 1000 * d + 40 * i + 2 * j + 1 is below AGAIN's (j 1 and later);");
        for (int again = 0; again <= 10; again++) {
            x = house(beds(2) + sleepers(2, "up 60 late 1") + "hears 0; again [after == 9] * " + again + ";");
            x.string(1, 50);
            x.string(0, 59);
            for (int d = 0; d < 10; d++) due(x.day(8, d), (lot(10, 8, 1000 * d + 40 + 3) < again ? 0 : 2) + 1);
        }

        sentence(45, "hears it if LOT 10 of which 1000 * d + 40 * i + 2 * j is below HEARING's;");
        for (int hears = 0; hears <= 10; hears++) {
            x = house(beds(2) + sleepers(2, "up 60 late 1") + "hears [hour == 1] * " + hears + ";");
            for (int i = 0; i < 7; i++) x.pole(0, i);
            x.pole(0, 60);
            for (int d = 0; d < 10; d++) {
                due(x.day(8, d), (lot(10, 8, 1000 * d + 14) < hears ? 1 : 0) + (lot(10, 8, 1000 * d + 54) < hears ? 2 : 0));
            }
        }

        sentence(45, "at the end AGAIN with j the number of SOUNDS that matter.");
        x = house(beds(2) + sleeper(0, "up 60 late 1") + sleeper(1, "up 70 late 1") + "hears 0; again [after == 5] * 4 + [after == 10] * 6;");
        x.string(0, 60);
        x.string(1, 60);
        x.string(0, 65);
        x.string(1, 65);
        x.string(0, 55);
        for (int d = 0; d < 10; d++) {
            // for p matter those at 55, 60, 60: asleep by 4 ahead of the second, which wakes him, and by none at the end
            boolean p = true;
            // for q all five: at 65 first the one for p (j 3), then his own (j 4), at the end j 5 by 5 minutes
            boolean q = lot(10, 21, 1000 * d + 40 + 11) >= 4;
            due(x.day(21, d), (p ? 1 : 0) + (q ? 2 : 0));
        }
        x = house(beds(2) + sleeper(0, "up 60 late 1") + sleeper(1, "up 70 late 1") + "hears 0; again [after == 5] * 4 + [after == 10] * 6;");
        x.string(0, 55);
        x.string(1, 60);
        x.drop(1);
        for (int d = 0; d < 10; d++) due(x.day(21, d), lot(10, 21, 1000 * d + 3) >= 4 ? 1 : 0);
        // none matters: he is not UP, whatever the LOTS
        x = house(beds(1) + sleepers(1, "up 60 late 1"));
        x.string(0, 61);
        for (int d = 0; d < 10; d++) due(x.day(21, d), 0);

        sentence(45, "A DAY by LOTS: SLEEPERS that are UP (of those with an HOUR; bits);");
        x = house(beds(12) + sleepers(11, "vain 1") + sleeper(11, "up 60 late 1"));
        for (int i = 4; i < 12; i++) x.string(i, 0);
        due(x.day(1, 0), 2048);
        due(new WakeHouse().day(1, 0), 0);

        sentence(45, "NONE: no such d (0 .. 999).");
        for (int d : new int[] {-1, 1000, MIN, MAX}) due(x.day(1, d), -1);
        due(x.day(1, 999), 2048);
        due(new WakeHouse().day(1, 999), 0);
        due(new WakeHouse().day(1, 1000), -1);
    }

    private static void days() {
        sentence(46, "Of k DAYS (1 .. 50) from 0 on, by LOTS: on how many a SLEEPER is UP");
        WakeHouse x = house(beds(3) + sleeper(0, "up 60 late 1") + sleeper(1, "vain 1") + sleeper(2, "up 60 late 1") + "hears 6;");
        x.pole(0, 60);
        for (int seed : SEEDS) {
            int p = 0;
            int r = 0;
            int both = 0;
            for (int k = 1; k <= 50; k++) {
                boolean pUp = lot(10, seed, 1000 * (k - 1)) < 6;
                boolean rUp = lot(10, seed, 1000 * (k - 1) + 80) < 6;
                p += pUp ? 1 : 0;
                r += rUp ? 1 : 0;
                both += pUp && rUp ? 1 : 0;
                if (k > 2 && k < 32 || k > 34 && k < 49) continue;
                due(x.days(seed, k, 0), p);
                due(x.days(seed, k, 2), r);
                due(x.days(seed, k, -1), both);
            }
        }

        sentence(46, "(NONE: all with an HOUR are, none or more);");
        x.string(0, 60);
        x.string(2, 60);
        due(x.days(5, 50, -1), 50);
        due(house(beds(2) + sleepers(2, "vain 1")).days(5, 50, -1), 50);
        due(new WakeHouse().days(5, 1, -1), 1);
        due(new WakeHouse().days(5, 50, -1), 50);
        due(house(beds(2) + sleepers(2, "up 60 late 1")).days(5, 50, -1), 0);

        sentence(46, "-2: no such ones, he has no HOUR.");
        for (int k : new int[] {0, 51, -1, MIN, MAX}) {
            due(x.days(5, k, 0), -2);
            due(x.days(5, k, -1), -2);
        }
        for (int sleeper : new int[] {-2, 3, MIN, MAX}) due(x.days(5, 1, sleeper), -2);
        due(x.days(5, 1, 1), -2);
        due(x.days(5, 1, 0), 1);
        due(x.days(5, 50, 0), 50);
        due(new WakeHouse().days(5, 1, 0), -2);
    }

    private static void holding() {
        sentence(47, "THE PLAN, WOOL, BEDS and MORNINGS are held in a SLOT (0, 1): true;");
        WakeHouse x = house(TWO);
        due(x.hold(1), true);
        x.pole(1, 5);
        x.string(0, 6);
        x.wool(1, true);
        x.swap(0, 1);
        x.morning(0, 0, 5);
        x.annul(0);
        x.morning(1, 1, 6);
        due(x.hold(0), true);
        String first = look(x);
        x.drop(0);
        x.pole(0, 7);
        x.pole(0, 8);
        x.wool(0, true);
        x.wool(1, false);
        x.swap(0, 1);
        x.morning(1, 0, 400);
        due(x.hold(1), true);
        String second = look(x);
        for (int i = 0; i < 5; i++) {
            x.drop(0);
            x.morning(0, 2, 2);
        }
        x.swap(0, 1);
        x.wool(1, true);
        due(x.restore(0), true);
        same(look(x), first);
        due(x.restore(1), true);
        same(look(x), second);

        sentence(47, "false: no such one.");
        for (int slot : new int[] {-1, 2, MIN, MAX}) due(x.hold(slot), false);
        due(new WakeHouse().hold(0), true);
        due(new WakeHouse().hold(1), true);
        due(new WakeHouse().hold(2), false);

        sentence(48, "These go on from what a SLOT holds (that stays there): true;");
        for (int turn = 0; turn < 3; turn++) {
            due(x.restore(1), true);
            same(look(x), second);
            x.drop(0);
            x.pole(0, 9);
            x.swap(0, 1);
            x.wool(turn % 2, true);
            x.morning(0, 3, 3);
        }
        due(x.hold(1), true);
        due(x.sound(2, 1), 9);
        due(x.restore(1), true);
        due(x.sound(2, 1), 9);
        // other MORNINGS in place of those that are held
        x = house(TWO);
        x.hold(0);
        x.morning(0, 0, 60);
        x.annul(0);
        x.morning(1, 1, 399);
        x.hold(1);
        x.restore(0);
        x.morning(1, 2, 400);
        x.morning(0, 3, 61);
        x.morning(0, 0, 61);
        due(x.restore(1), true);
        due(x.alone(0, 0, 1, 1), 1);
        due(x.alone(0, 7, 3, 0), 0);
        due(x.alone(1, 1, 3, 1), 1);
        due(x.annul(1), -1);
        x = house(TWO);
        x.hold(0);
        x.pole(0, 1);
        x.morning(0, 0, 1);
        x.wool(0, true);
        x.swap(0, 1);
        due(x.restore(0), true);
        int[] counts = {2, 0, 2, 0, 0, 0, 0, 1};
        for (int what = 0; what <= 7; what++) due(x.count(what), counts[what]);
        due(x.lies(0), 0);
        // what is told, and the tape, are not held
        feed(x, "bed");
        due(x.restore(0), true);
        due(x.count(6), 3);
        due(x.count(0), 2);

        sentence(48, "false, and nothing happens: no such one, nothing is held.");
        x = house(TWO);
        x.pole(0, 1);
        x.wool(0, true);
        String state = look(x);
        for (int slot : new int[] {0, 1, -1, 2, MIN, MAX}) due(x.restore(slot), false);
        same(look(x), state);
        x.hold(1);
        x.pole(0, 2);
        state = look(x);
        due(x.restore(0), false);
        due(x.restore(2), false);
        same(look(x), state);
        tell(x, TWO);
        due(x.restore(1), false);
    }

    private static void counting() {
        sentence(49, "0 BEDS, 1 CLOCKS, 2 SLEEPERS, 3 SOUNDS, 4 MORNINGS and VOIDS, 5 those with WOOL, 6 bytes on the tape, 7 SLOTS that hold something.");
        WakeHouse x = house(beds(12) + clocks(9) + sleepers(11, "up 60 late 1"));
        for (int i = 0; i < 7; i++) x.pole(0, i);
        for (int i = 0; i < 5; i++) x.morning(0, 0, 0);
        x.annul(0);
        for (int i = 0; i < 10; i++) x.wool(i, true);
        feed(x, "hears 1;");
        int[] counts = {12, 9, 11, 7, 6, 10, 8, 0};
        for (int what = 0; what <= 7; what++) due(x.count(what), counts[what]);
        x.hold(1);
        due(x.count(7), 1);
        x.hold(1);
        due(x.count(7), 1);
        x.hold(0);
        due(x.count(7), 2);
        x.restore(0);
        due(x.count(7), 2);

        sentence(49, "NONE for others.");
        for (int what : new int[] {-1, 8, MIN, MAX}) due(x.count(what), -1);
    }
}
