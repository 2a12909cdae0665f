/** Part II of the Terms and promises 6 to 21: HEARING, AGAIN, the PLAN, its WAYS and COST. */
final class PlanSentences extends Sentences {
    private static final int MIN = Integer.MIN_VALUE;
    private static final int MAX = Integer.MAX_VALUE;
    private static final String THREE = "bed a 0 0; bed b 1 2; bed c 3 9; clock k 9; clock f 8 fast 30; clock s 7 slow 30;"
        + "sleeper p in a deep 3 up 90 late 2; sleeper q in c deep 1 vain 4;";

    static void all() {
        sleeperAndBed();
        hearing();
        falling();
        laws();
        ringing();
        stringing();
        knocking();
        dropping();
        sounds();
        woolAndSwap();
        nights();
        upInTime();
        wokenInVain();
        costs();
        worst();
    }

    private static void sleeperAndBed() {
        sentence(6, "Of a SLEEPER: what 0 his BED, 1 DEEP, 2 HOUR (-2: none), 3 what LATE costs, 4 VAIN, 5: 1 with WOOL, else 0.");
        WakeHouse x = house(THREE);
        int[] p = {0, 3, 90, 2, 0, 0};
        int[] q = {2, 1, -2, 0, 4, 0};
        for (int what = 0; what <= 5; what++) {
            due(x.of(0, what), p[what]);
            due(x.of(1, what), q[what]);
        }
        x.wool(1, true);
        due(x.of(1, 5), 1);
        due(x.of(0, 5), 0);
        x.swap(1, 2);
        due(x.of(1, 0), 1);

        sentence(6, "NONE for others.");
        for (int sleeper : new int[] {-1, 2, 12, MIN, MAX}) {
            for (int what = 0; what <= 5; what++) due(x.of(sleeper, what), -1);
        }
        for (int what : new int[] {-1, 6, MIN, MAX}) due(x.of(0, what), -1);
        WakeHouse full = house(beds(12) + sleepers(12, "vain 7"));
        due(full.of(11, 4), 7);
        due(full.of(12, 4), -1);

        sentence(7, "Who lies in a BED;");
        x = house(THREE);
        due(x.lies(0), 0);
        due(x.lies(2), 1);
        due(full.lies(11), 11);

        sentence(7, "-2: nobody;");
        due(x.lies(1), -2);
        x.swap(0, 1);
        due(x.lies(0), -2);

        sentence(7, "NONE: no such one.");
        for (int bed : new int[] {-1, -2, 3, MIN, MAX}) due(x.lies(bed), -1);
        due(full.lies(12), -1);
        due(new WakeHouse().lies(0), -1);
    }

    private static int heard(String law) {
        WakeHouse x = house("bed a 0 0; bed b 2 7; sleeper p in b deep 6; hears " + law + ";");
        return x.hears(0, 5, 0, 185);
    }

    private static void hearing() {
        sentence(8, "HEARING of a SLEEPER, of a sound of some LOUD from a BED's place at a MINUTE: what hears says (loud;");
        for (int loud = 1; loud <= 10; loud++) due(house("bed a 0 0; sleeper p in a deep 9; hears loud;").hears(0, loud, 0, 9), loud);

        sentence(8, "gap: how far the PLACES of that BED and his are apart;");
        WakeHouse x = house("bed a 0 2; bed b 3 9; bed c 0 0; sleeper p in a deep 0; sleeper q in b deep 0; hears gap;");
        due(x.hears(0, 1, 0, 0), 0);
        due(x.hears(0, 1, 1, 0), 7);
        due(x.hears(1, 1, 0, 0), 7);
        due(x.hears(0, 1, 2, 0), 2);
        due(x.hears(1, 1, 2, 0), 9);
        x.swap(0, 2);
        due(x.hears(0, 1, 0, 0), 2);

        sentence(8, "floors: the FLOORS;");
        x = house("bed a 0 2; bed b 3 9; sleeper p in a deep 0; sleeper q in b deep 0; hears floors;");
        due(x.hears(0, 1, 1, 0), 3);
        due(x.hears(1, 1, 0, 0), 3);
        due(x.hears(1, 1, 1, 0), 0);

        sentence(8, "hour: MINUTE / 60;");
        x = house("bed a 0 0; sleeper p in a deep 0; hears hour;");
        for (int minute = 0; minute < 400; minute++) due(x.hears(0, 1, 0, minute), minute / 60);

        sentence(8, "deep; wool 1 with WOOL, else 0; after 0),");
        x = house("bed a 0 0; bed b 0 0; sleeper p in a deep 0; sleeper q in b deep 9; hears deep;");
        due(x.hears(0, 1, 0, 0), 0);
        due(x.hears(1, 1, 0, 0), 9);
        x = house("bed a 0 0; bed b 0 0; sleeper p in a deep 0; sleeper q in b deep 9; hears wool * 10 + after;");
        due(x.hears(0, 1, 0, 399), 0);
        x.wool(0, true);
        due(x.hears(0, 1, 0, 399), 10);
        due(x.hears(1, 1, 0, 399), 0);
        x.wool(0, false);
        due(x.hears(0, 1, 0, 399), 0);

        sentence(8, "held to 0 .. 10: so many of ten times he hears it.");
        int[][] values = {{0, 0}, {1, 1}, {9, 9}, {10, 10}, {11, 10}, {9999, 10}};
        for (int[] value : values) due(heard(Integer.toString(value[0])), value[1]);
        due(heard("0-1"), 0);
        due(heard("0-9999"), 0);
        due(heard("0-9999*9999"), 0);

        sentence(8, "HEARING;");
        x = house(THREE);
        due(x.hears(0, 12, 1, 399), 12 - 2 - 3);
        due(x.hears(1, 12, 2, 0), 10);
        due(x.hears(1, 1, 2, 0), 1);

        sentence(8, "NONE: no such SLEEPER, LOUD (1 .. 12), BED, MINUTE.");
        for (int sleeper : new int[] {-1, 2, MIN, MAX}) due(x.hears(sleeper, 9, 0, 0), -1);
        for (int loud : new int[] {0, 13, -1, MIN, MAX}) due(x.hears(0, loud, 0, 0), -1);
        for (int bed : new int[] {-1, 3, MIN, MAX}) due(x.hears(0, 9, bed, 0), -1);
        for (int minute : new int[] {-1, 400, MIN, MAX}) due(x.hears(0, 9, 0, minute), -1);
    }

    private static void falling() {
        sentence(9, "AGAIN: awake since so many minutes (after; deep; all others 0)");
        WakeHouse x = house("bed a 3 9; bed b 0 0; sleeper p in a deep 4; sleeper q in b deep 0;"
            + "again after - 390 + deep * 2 + loud + gap + floors + hour + wool;");
        x.wool(0, true);
        due(x.again(0, 390), 8);
        due(x.again(0, 391), 9);
        due(x.again(1, 395), 5);
        due(x.again(0, 395), 10);
        due(x.again(1, 399), 9);
        due(x.again(1, 390), 0);
        due(x.again(0, 60), 0);
        x = house("bed a 0 0; bed b 0 0; sleeper p in a deep 9; sleeper q in b deep 0; again [after == 9] * 3 + deep - 4;");
        due(x.again(0, 0), 5);
        due(x.again(1, 9), 0);
        due(x.again(0, 9), 8);

        sentence(9, "he is asleep again by what again says of ten times, held to 0 .. 10.");
        x = house("bed a 0 0; sleeper p in a deep 0; again after - 1;");
        for (int after = 0; after <= 15; after++) due(x.again(0, after), Math.max(0, Math.min(10, after - 1)));
        due(x.again(0, 399), 10);

        sentence(9, "AGAIN;");
        due(house("bed a 0 0; sleeper p in a deep 0; again 7;").again(0, 0), 7);
        due(house("bed a 0 0; sleeper p in a deep 0; again 7; again after;").again(0, 0), 0);

        sentence(9, "NONE: no such SLEEPER, minutes (0 .. 399).");
        for (int sleeper : new int[] {-1, 1, MIN, MAX}) due(x.again(sleeper, 5), -1);
        for (int after : new int[] {-1, 400, MIN, MAX}) due(x.again(0, after), -1);
        due(x.again(0, 0), 0);
    }

    private static void laws() {
        sentence(8, "Ints of 32 bits that wrap,");
        // 65536 * 32768 is 2147483648: the least int; one less the greatest
        due(heard("[65536 / 65536 == 1]".replace("65536", "(256 * 256)") + "* 3"), 3);
        due(heard("[256 * 256 * 128 * 256 < 0] * 3"), 3);
        due(heard("[0 < 256 * 256 * 128 * 256 - 1] * 3"), 3);
        due(heard("[256 * 256 * 128 * 256 - 1 + 1 < 0] * 3"), 3);
        due(heard("256 * 256 * 256 * 256 + 3"), 3);
        due(heard("256 * 256 * 256 * 256 * 256 - 5 + 8"), 3);
        due(heard("9999 * 9999 * 43 / (5000 * 100)"), 8);
        due(heard("[256 * 256 * 128 * 256 / (0 - 1) == 256 * 256 * 128 * 256] * 3"), 3);
        due(heard("[0 - 256 * 256 * 128 * 256 == 256 * 256 * 128 * 256] * 3"), 3);

        sentence(8, "/ rounded towards 0;");
        due(heard("19 / 10"), 1);
        due(heard("9 / 10"), 0);
        due(heard("5 + (0 - 19) / 10"), 4);
        due(heard("5 + (0 - 9) / 10"), 5);
        due(heard("5 + 19 / (0 - 10)"), 4);
        due(heard("5 + (0 - 19) / (0 - 10)"), 6);
        due(heard("5 - 19 / 10"), 4);

        sentence(8, "an E that divides by 0 anywhere in it is 0 as a whole.");
        due(heard("1 / 0"), 0);
        due(heard("0 / 0"), 0);
        due(heard("5 + 1 / 0"), 0);
        due(heard("1 / 0 + 5"), 0);
        due(heard("5 + (1 / (2 - 2)) * 0"), 0);
        due(heard("5 + [1 / 0 < 1]"), 0);
        due(heard("5 + [1 < 1 / 0]"), 0);
        due(heard("5 + 0 * (1 / (wool))"), 0);
        due(heard("5 + 0 / 1"), 5);
        due(heard("5 + ((((1 / 0 + 3) + 3) + 3) + 3)"), 0);
        WakeHouse x = house("bed a 0 0; bed b 0 3; sleeper p in a deep 0; hears 9 / gap; again 9 / after;");
        due(x.hears(0, 1, 0, 0), 0);
        due(x.hears(0, 1, 1, 0), 3);
        due(x.again(0, 0), 0);
        due(x.again(0, 1), 9);
        due(x.again(0, 10), 0);

        sentence(8, "[ ] is 1 if it is so, else 0.");
        due(heard("[1 < 2] * 3"), 3);
        due(heard("[2 < 2] * 3"), 0);
        due(heard("[3 < 2] * 3"), 0);
        due(heard("[0 - 1 < 0] * 3"), 3);
        due(heard("[2 == 2] * 3"), 3);
        due(heard("[1 == 2] * 3"), 0);
        due(heard("[3 == 2] * 3"), 0);
        due(heard("[1 < 2] + [1 < 2]"), 2);
        due(heard("[[1 < 2] == 1] + 1"), 2);
        due(heard("[1 < 2 + 3 * 4] * 3"), 3);

        sentence(8, "E: PART {('+' | '-') PART}.");
        due(heard("9 - 3 - 2"), 4);
        due(heard("9 - 3 + 2"), 8);
        due(heard("9 - (3 + 2)"), 4);
        due(heard("1 + 2 * 3"), 7);
        due(heard("9 - 2 * 3"), 3);
        due(heard("2 * 3 - 1"), 5);
        due(heard("9 - 4 / 2 + 1"), 8);

        sentence(8, "PART: UNIT {('*' | '/') UNIT}.");
        due(heard("8 / 2 / 2"), 2);
        due(heard("8 / 4 * 2"), 4);
        due(heard("3 * 5 / 4"), 3);
        due(heard("5 / 4 * 3"), 3);
        due(heard("8 / (2 * 2)"), 2);
        due(heard("(1 + 2) * 3"), 9);
        due(heard("3 * (1 + 2)"), 9);
    }

    private static void ringing() {
        sentence(10, "THE PLAN: SOUNDS, 8 at most, numbered from 0 on (those behind one that is dropped move up):");
        WakeHouse x = house(THREE);
        for (int i = 0; i < 8; i++) due(i % 3 == 0 ? x.ring(0, 0, i) : i % 3 == 1 ? x.string(0, i) : x.pole(0, i), i);
        due(x.count(3), 8);
        due(x.pole(0, 8), -1);
        due(x.drop(3), 7);
        for (int i = 0; i < 7; i++) {
            int was = i < 3 ? i : i + 1;
            due(x.sound(i, 0), was % 3);
            due(x.sound(i, 1), was);
        }
        due(x.pole(0, 9), 7);
        due(x.sound(7, 1), 9);

        sentence(10, "RING: a CLOCK beside a BED, set to a MINUTE: it sounds by its LOUD at that MINUTE,");
        x = house(THREE);
        x.ring(0, 2, 399);
        due(x.sound(0, 1), 399);
        due(x.sound(0, 2), 9);
        due(x.sound(0, 3), 2);
        due(x.woken(0), 0);
        due(x.woken(1), 90);

        sentence(10, "FAST ones so much sooner, SLOW ones later, held to 0 .. 399.");
        int[][] set = {{1, 0, 0}, {1, 29, 0}, {1, 30, 0}, {1, 31, 1}, {1, 399, 369}, {2, 0, 30}, {2, 368, 398}, {2, 369, 399}, {2, 370, 399}, {2, 399, 399}};
        for (int[] s : set) {
            x.drop(0);
            due(x.ring(s[0], 0, s[1]), 0);
            due(x.sound(0, 1), s[2]);
        }

        sentence(10, "A RING: its number.");
        x = house(THREE);
        due(x.ring(2, 2, 0), 0);
        due(x.ring(0, 0, 399), 1);
        due(x.ring(0, 0, 399), 2);

        sentence(10, "NONE, and nothing happens: 8 SOUNDS are there, no such ones.");
        String state = look(x);
        for (int clock : new int[] {-1, 3, MIN, MAX}) due(x.ring(clock, 0, 0), -1);
        for (int bed : new int[] {-1, 3, MIN, MAX}) due(x.ring(0, bed, 0), -1);
        for (int minute : new int[] {-1, 400, MIN, MAX}) due(x.ring(0, 0, minute), -1);
        // a SLOW clock set below 0, a FAST one set above 399: no MINUTES all the same
        due(x.ring(2, 0, -1), -1);
        due(x.ring(1, 0, 400), -1);
        same(look(x), state);
        for (int i = 3; i < 8; i++) due(x.ring(0, 0, i), i);
        state = look(x);
        due(x.ring(0, 0, 0), -1);
        same(look(x), state);

        sentence(10, "MINUTES are 0 .. 399.");
        x = house(THREE);
        due(x.ring(0, 0, 0), 0);
        due(x.ring(0, 0, 399), 1);
        due(x.string(0, 0), 2);
        due(x.string(0, 399), 3);
        due(x.pole(0, 0), 4);
        due(x.pole(0, 399), 5);
        due(x.hears(0, 9, 0, 0), 9);
        due(x.hears(0, 9, 0, 399), 9);
        due(x.hears(0, 9, 0, 400), -1);
        due(x.hears(0, 9, 0, -1), -1);
    }

    private static void stringing() {
        sentence(11, "STRING: one SLEEPER is woken (10 of ten times) at a MINUTE, nobody else hears it.");
        WakeHouse x = house("bed a 0 0; bed b 0 0; sleeper p in a deep 0; sleeper q in b deep 0; hears 5;");
        x.wool(1, true);
        x.string(1, 0);
        due(x.woken(0), 0);
        due(x.woken(1), 100);
        x = house("bed a 0 0; bed b 0 0; sleeper p in a deep 0; sleeper q in b deep 0; hears 10;");
        x.string(0, 399);
        due(x.woken(0), 100);
        due(x.woken(1), 0);

        sentence(11, "A STRING: its number;");
        x = house(THREE);
        due(x.string(1, 399), 0);
        due(x.string(1, 399), 1);
        due(x.string(0, 0), 2);

        sentence(11, "NONE likewise.");
        String state = look(x);
        for (int sleeper : new int[] {-1, 2, MIN, MAX}) due(x.string(sleeper, 0), -1);
        for (int minute : new int[] {-1, 400, MIN, MAX}) due(x.string(0, minute), -1);
        same(look(x), state);
        for (int i = 3; i < 8; i++) due(x.string(0, i), i);
        state = look(x);
        due(x.string(0, 0), -1);
        same(look(x), state);
    }

    private static void knocking() {
        sentence(12, "POLE: a knock of LOUD 7 from a BED's place at a MINUTE.");
        WakeHouse x = house("bed a 0 0; bed b 0 2; sleeper p in a deep 0; sleeper q in b deep 0;");
        x.pole(0, 5);
        due(x.woken(0), 70);
        due(x.woken(1), 50);
        due(x.sound(0, 2), 7);
        x.swap(0, 1);
        due(x.woken(0), 50);
        due(x.woken(1), 70);

        sentence(12, "A POLE: its number;");
        x = house(THREE);
        due(x.pole(2, 399), 0);
        due(x.pole(0, 0), 1);

        sentence(12, "NONE likewise.");
        String state = look(x);
        for (int bed : new int[] {-1, 3, MIN, MAX}) due(x.pole(bed, 0), -1);
        for (int minute : new int[] {-1, 400, MIN, MAX}) due(x.pole(0, minute), -1);
        same(look(x), state);
        for (int i = 2; i < 8; i++) due(x.pole(0, i), i);
        state = look(x);
        due(x.pole(0, 0), -1);
        same(look(x), state);
    }

    private static void dropping() {
        sentence(13, "A SOUND is dropped: how many there are.");
        WakeHouse x = house(THREE);
        for (int i = 0; i < 8; i++) x.pole(i % 3, i);
        due(x.drop(7), 7);
        due(x.sound(6, 1), 6);
        due(x.drop(0), 6);
        due(x.sound(0, 1), 1);
        due(x.sound(5, 1), 6);
        due(x.sound(6, 1), -1);
        for (int i = 5; i >= 0; i--) due(x.drop(0), i);
        due(x.ways(), 1);
        x.ring(1, 0, 40);
        x.string(1, 50);
        x.ring(0, 1, 60);
        x.pole(2, 70);
        due(x.drop(0), 3);
        int[][] left = {{1, 50, 0, 2}, {0, 60, 9, 1}, {2, 70, 7, 2}};
        for (int sound = 0; sound < 3; sound++) {
            for (int what = 0; what <= 3; what++) due(x.sound(sound, what), left[sound][what]);
        }
        due(x.woken(1), 1000000);
        for (int i = 2; i >= 0; i--) due(x.drop(0), i);

        sentence(13, "NONE, and nothing happens: no such one.");
        due(x.drop(0), -1);
        x.pole(0, 7);
        String state = look(x);
        for (int sound : new int[] {1, -1, 8, MIN, MAX}) due(x.drop(sound), -1);
        same(look(x), state);
        for (int i = 1; i < 8; i++) x.pole(0, 7);
        due(x.drop(8), -1);
    }

    private static void sounds() {
        sentence(14, "Of a SOUND: what 0: 0 RING, 1 STRING, 2 POLE, 1 its MINUTE (as it sounds), 2 LOUD (STRING: 0), 3 the BED (STRING: the SLEEPER's).");
        WakeHouse x = house(THREE);
        x.ring(1, 1, 100);
        x.string(1, 5);
        x.pole(2, 6);
        int[][] all = {{0, 70, 8, 1}, {1, 5, 0, 2}, {2, 6, 7, 2}};
        for (int sound = 0; sound < 3; sound++) {
            for (int what = 0; what <= 3; what++) due(x.sound(sound, what), all[sound][what]);
        }
        x.swap(2, 0);
        due(x.sound(0, 3), 1);
        due(x.sound(1, 3), 0);
        due(x.sound(2, 3), 2);

        sentence(14, "NONE for others.");
        for (int sound : new int[] {3, -1, 8, MIN, MAX}) {
            for (int what = 0; what <= 3; what++) due(x.sound(sound, what), -1);
        }
        for (int what : new int[] {4, -1, MIN, MAX}) due(x.sound(0, what), -1);
        for (int i = 3; i < 8; i++) x.pole(0, i);
        due(x.sound(7, 1), 7);
        due(x.sound(8, 1), -1);
        due(new WakeHouse().sound(0, 0), -1);
    }

    private static void woolAndSwap() {
        sentence(15, "A SLEEPER has WOOL, or not: true;");
        WakeHouse x = house(beds(12) + sleepers(12, ""));
        for (int i = 0; i < 12; i++) {
            due(x.wool(i, true), true);
            due(x.wool(i, true), true);
            due(x.count(5), i + 1);
            due(x.of(i, 5), 1);
        }
        due(x.wool(5, false), true);
        due(x.wool(5, false), true);
        due(x.count(5), 11);
        due(x.of(5, 5), 0);
        due(x.of(6, 5), 1);

        sentence(15, "false: no such one.");
        for (int sleeper : new int[] {-1, 12, 32, MIN, MAX}) {
            due(x.wool(sleeper, true), false);
            due(x.wool(sleeper, false), false);
        }
        due(x.count(5), 11);
        due(new WakeHouse().wool(0, true), false);

        sentence(16, "Two BEDS are changed: true;");
        x = house(THREE);
        due(x.swap(0, 2), true);
        due(x.lies(0), 1);
        due(x.lies(2), 0);
        due(x.of(0, 0), 2);
        due(x.of(1, 0), 0);
        due(x.swap(1, 0), true);
        due(x.lies(0), -2);
        due(x.lies(1), 1);
        due(x.swap(0, 2), true);
        due(x.lies(0), 0);
        x = house(beds(3) + sleepers(1, ""));
        due(x.swap(1, 2), true);
        due(x.lies(1), -2);
        due(x.lies(2), -2);
        due(x.lies(0), 0);

        sentence(16, "false: no such ones, one and the same.");
        x = house(THREE);
        String state = look(x);
        for (int bed : new int[] {-1, 3, MIN, MAX}) {
            due(x.swap(bed, 0), false);
            due(x.swap(0, bed), false);
            due(x.swap(bed, bed), false);
        }
        for (int bed = 0; bed < 3; bed++) due(x.swap(bed, bed), false);
        same(look(x), state);
    }

    private static void nights() {
        sentence(17, "All WAYS: 100 to the N.");
        WakeHouse x = house(THREE);
        long ways = 1;
        for (int n = 0; n <= 8; n++) {
            due(x.ways(), ways);
            x.pole(0, 399 - n);
            ways *= 100;
        }
        due(x.ways(), 10000000000000000L);

        sentence(17, "WAYS of all N SOUNDS: 100 to the N, each SOUND a hearing and an AGAIN of ten ways (so that what does not matter counts ten ways as well).");
        x = house("bed a 0 0; sleeper p in a deep 0 up 50 late 0; sleeper q in b deep 0;".replace("sleeper q", "bed b 0 5; sleeper q") + "again 2;");
        x.pole(0, 40);
        due(x.up(0), 7 * 8);
        due(x.woken(1), 2 * 10);
        x.pole(0, 60);
        due(x.up(0), 56 * 100);
        due(x.woken(1), 10000 - 80 * 80);

        sentence(18, "A SLEEPER's NIGHT: he is asleep; at each SOUND, in the order of their MINUTES (of alike ones by their numbers):");
        // by AGAIN after 0 minutes it matters who comes last: the string, or the pole that p can't hear
        String alike = "bed a 0 0; bed b 0 9; sleeper p in a deep 0 up 50 late 0; again [after == 0] * 10;";
        x = house(alike);
        x.string(0, 40);
        x.pole(1, 40);
        due(x.up(0), 0);
        x = house(alike);
        x.pole(1, 40);
        x.string(0, 40);
        due(x.up(0), 10000);
        x = house(alike);
        x.pole(1, 41);
        x.string(0, 41);
        x.string(0, 40);
        due(x.up(0), 1000000);
        x = house(alike);
        x.string(0, 41);
        x.pole(1, 40);
        x.string(0, 40);
        x.pole(1, 41);
        due(x.up(0), 0);
        x.drop(0);
        x.string(0, 41);
        due(x.up(0), 100000000);

        sentence(18, "if he is awake he is asleep AGAIN by the minutes since the SOUND ahead of it;");
        x = house("bed a 0 0; bed b 0 9; sleeper p in a deep 0 up 50 late 0; again [after == 7] * 4;");
        x.string(0, 20);
        x.pole(1, 27);
        due(x.up(0), 6000);
        x = house("bed a 0 0; bed b 0 9; sleeper p in a deep 0 up 50 late 0; again [after == 7] * 4;");
        x.string(0, 20);
        x.pole(1, 26);
        x.pole(1, 27);
        due(x.up(0), 1000000);
        // asleep at the SOUND he can't fall asleep there
        x = house("bed a 0 0; bed b 0 9; sleeper p in a deep 0 up 50 late 0; again [after == 7] * 10;");
        x.pole(1, 20);
        x.string(0, 27);
        due(x.up(0), 10000);

        sentence(18, "then, asleep, he hears it, or not.");
        x = house("bed a 0 0; sleeper p in a deep 0 up 50 late 0; again [after == 7] * 10;");
        x.string(0, 20);
        x.pole(0, 27);
        due(x.up(0), 7000);
        x = house("bed a 0 0; sleeper p in a deep 0 up 50 late 0;");
        x.pole(0, 20);
        x.pole(0, 27);
        due(x.up(0), 9100);
    }

    private static void upInTime() {
        sentence(18, "UP in time: awake at his HOUR, after AGAIN by the minutes since the last SOUND at that MINUTE or ahead");
        WakeHouse x = house("bed a 0 0; sleeper p in a deep 0 up 50 late 0; again [after == 0] * 3 + [after == 50] * 4;");
        x.string(0, 50);
        due(x.up(0), 70);
        x.drop(0);
        x.string(0, 49);
        due(x.up(0), 100);
        x.drop(0);
        x.string(0, 0);
        due(x.up(0), 60);
        x = house("bed a 0 0; sleeper p in a deep 0 up 0 late 0;");
        x.string(0, 0);
        due(x.up(0), 100);
        x = house("bed a 0 0; sleeper p in a deep 0 up 399 late 0;");
        x.string(0, 399);
        due(x.up(0), 100);

        sentence(18, "(SOUNDS later than his HOUR don't matter).");
        x = house("bed a 0 0; sleeper p in a deep 0 up 50 late 0; again [after == 1] * 5;");
        x.string(0, 51);
        due(x.up(0), 0);
        x.string(0, 50);
        due(x.up(0), 10000);
        x.pole(0, 399);
        due(x.up(0), 1000000);

        sentence(18, "WAYS by which a SLEEPER is UP in time;");
        x = house(THREE);
        due(x.up(0), 0);
        for (int i = 0; i < 8; i++) x.string(0, 90);
        due(x.up(0), 10000000000000000L);
        x = house("bed a 0 0; sleeper p in a deep 0 up 90 late 9; hears 1;");
        for (int i = 0; i < 8; i++) x.pole(0, 90 - i);
        // 1 - 0.9 to the 8th, times 100 to the 8th
        due(x.up(0), 10000000000000000L - 43046721L * 100000000L);

        sentence(18, "-2: he has no HOUR;");
        x = house(THREE);
        due(x.up(1), -2);
        x.string(1, 0);
        due(x.up(1), -2);

        sentence(18, "-1: no such one.");
        for (int sleeper : new int[] {-1, 2, -2, MIN, MAX}) due(x.up(sleeper), -1);
    }

    private static void wokenInVain() {
        sentence(19, "VAIN: a SLEEPER without an HOUR who hears some SOUND.");
        WakeHouse x = house("bed a 0 0; sleeper p in a deep 0 vain 1; again 10;");
        due(x.cost(), 0);
        x.pole(0, 399);
        due(x.cost(), 70);
        x.pole(0, 0);
        due(x.cost(), 10000 - 30 * 30);

        sentence(19, "WAYS by which a SLEEPER hears some SOUND (with an HOUR, too: any SOUND);");
        x = house("bed a 0 0; sleeper p in a deep 0 up 10 late 1; again 10;");
        due(x.woken(0), 0);
        x.pole(0, 11);
        due(x.woken(0), 70);
        x.pole(0, 399);
        due(x.woken(0), 9100);
        x.string(0, 399);
        due(x.woken(0), 1000000);
        for (int i = 3; i < 8; i++) x.pole(0, i);
        due(x.woken(0), 10000000000000000L);

        sentence(19, "-1: no such one.");
        for (int sleeper : new int[] {-1, 1, -2, MIN, MAX}) due(x.woken(sleeper), -1);
    }

    private static void costs() {
        sentence(20, "COST: for each SLEEPER with an HOUR what LATE costs times the WAYS by which he is not UP;");
        WakeHouse x = house("bed a 0 0; sleeper p in a deep 0 up 50 late 9;");
        due(x.cost(), 9);
        x.pole(0, 50);
        due(x.cost(), 9 * 30);
        x.pole(0, 51);
        due(x.cost(), 9 * 3000);
        due(house("bed a 0 0; sleeper p in a deep 0 up 50 late 0;").cost(), 0);

        sentence(20, "for each one without what VAIN costs times those by which he is woken in VAIN; the sum.");
        x = house("bed a 0 0; bed b 0 2; sleeper p in a deep 0 vain 9; sleeper q in b deep 0 up 50 late 5;");
        due(x.cost(), 5);
        x.pole(0, 50);
        due(x.cost(), 9 * 70 + 5 * 50);
        x = house("bed a 0 0; sleeper p in a deep 0;");
        x.pole(0, 50);
        due(x.cost(), 0);

        sentence(20, "COST.");
        due(new WakeHouse().cost(), 0);
        x = house(beds(12) + sleepers(12, "vain 9"));
        due(x.cost(), 0);
        for (int i = 0; i < 8; i++) x.pole(0, i);
        // each hears some by all but 3 of ten to the 8th
        due(x.cost(), 108L * (10000000000000000L - 6561L * 100000000L));
        x = house(beds(12) + sleepers(12, "up 9 late 9"));
        for (int i = 0; i < 8; i++) x.pole(0, 10);
        due(x.cost(), 1080000000000000000L);
    }

    private static void worst() {
        sentence(21, "The SOUND without which COST would be least, as parts of the WAYS then;");
        WakeHouse x = house("bed a 0 0; bed b 0 3; sleeper p in a deep 0 up 50 late 1; sleeper q in b deep 0 vain 1;");
        x.pole(0, 50);
        due(x.worst(), 0);
        x.pole(1, 50);
        // p hears 7 and 4, q 4 and 7
        due(x.worst(), 1);
        x.pole(0, 51);
        due(x.worst(), 1);
        x.drop(1);
        due(x.worst(), 1);
        x.string(1, 0);
        due(x.worst(), 2);
        String state = look(x);
        x.worst();
        same(look(x), state);

        sentence(21, "of alike ones the first;");
        x = house("bed a 0 0; sleeper p in a deep 0 up 50 late 1;");
        for (int i = 0; i < 8; i++) x.pole(0, 100 + i);
        due(x.worst(), 0);
        x.drop(0);
        x.string(0, 10);
        due(x.worst(), 0);

        sentence(21, "-2: there is none.");
        due(new WakeHouse().worst(), -2);
        due(house(THREE).worst(), -2);
    }
}
