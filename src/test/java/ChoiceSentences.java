/** Part III of the Terms and promises 22 to 37: what is best, fewest, first. */
final class ChoiceSentences extends Sentences {
    private static final int MIN = Integer.MIN_VALUE;
    private static final int MAX = Integer.MAX_VALUE;

    static void all() {
        hours();
        best();
        bestFirst();
        bestAt();
        fewest();
        deaf();
        walk();
        shakes();
        shaker();
        twice();
        twiceAt();
        swaps();
        swapAt();
        worth();
        whose();
        round();
        roundAt();
    }

    private static void hours() {
        sentence(22, "HOURS: all unlike HOURS, the least first.");
        WakeHouse x = house(beds(12) + sleeper(0, "up 90 late 1") + sleeper(1, "") + sleeper(2, "up 0 late 1") + sleeper(3, "up 90 late 2")
            + sleeper(4, "up 399 late 1") + sleeper(5, "vain 3") + sleeper(6, "up 89 late 0") + sleeper(7, "up 0 late 0"));
        int[] due = {0, 89, 90, 399};
        due(x.hours(-1), 4);
        for (int i = 0; i < 4; i++) due(x.hours(i), due[i]);

        sentence(22, "How many HOURS there are (i NONE);");
        due(new WakeHouse().hours(-1), 0);
        due(house(beds(1) + sleepers(1, "vain 1")).hours(-1), 0);
        due(house(beds(12) + sleepers(12, "up 7 late 1")).hours(-1), 1);

        sentence(22, "else the i-th;");
        StringBuilder s = new StringBuilder(beds(12));
        for (int i = 0; i < 12; i++) s.append(sleeper(i, "up " + (100 - 7 * i) + " late 1"));
        WakeHouse twelve = house(s.toString());
        due(twelve.hours(-1), 12);
        for (int i = 0; i < 12; i++) due(twelve.hours(i), 100 - 7 * (11 - i));

        sentence(22, "NONE: not so many.");
        due(twelve.hours(12), -1);
        for (int i : new int[] {4, 5, 11, -2, MIN, MAX}) due(x.hours(i), -1);
        due(new WakeHouse().hours(0), -1);
    }

    private static void best() {
        sentence(23, "BEST TWO: RINGS of one or two CLOCKS (unlike) are put behind the PLAN (8 in all at most):");
        // who rings last at one minute: AGAIN after 0 minutes is 10
        WakeHouse x = house("bed a 0 0; clock k 1; clock l 10; sleeper p in a deep 0 up 60 late 1; again [after == 0] * 10;");
        due(x.best(0, 1, 10), 0);
        due(x.best(1, 0, 10), 9000);
        x.string(0, 50);
        due(x.best(0, -1, 10), 9000);
        due(x.best(1, -1, 10), 0);
        due(x.best(0, 0, 10), -1);
        due(x.count(3), 1);
        for (int i = 1; i < 6; i++) x.pole(0, 61);
        due(x.best(0, 1, 10), 0);
        x.pole(0, 61);
        due(x.best(0, 1, 10), -2);
        due(x.best(1, -1, 10), 0);
        x.pole(0, 61);
        due(x.best(1, -1, 10), -2);

        sentence(23, "each CLOCK beside any BED,");
        String many = "bed z 3 9; clock k 10; clock l 10; sleeper q in z deep 0 up 60 late 7;";
        x = house(beds(11) + many);
        due(x.best(0, -1, 0), 0);
        due(x.bestAt(0, -1, 0, 0), 11);
        x = house(many + beds(11));
        due(x.bestAt(0, -1, 0, 0), 0);
        x = house(beds(11) + many + sleeper(0, "up 60 late 3"));
        due(x.best(0, 1, 0), 0);
        due(x.bestAt(0, 1, 0, 0), 0);
        due(x.bestAt(0, 1, 0, 2), 11);

        sentence(23, "set to any of the HOURS less a LEAD (0 .. 60; held to 0):");
        x = house("bed a 0 0; bed b 0 0; clock k 10; sleeper p in a deep 0 up 60 late 1; sleeper q in b deep 0 up 59 late 1;");
        due(x.best(0, -1, 0), 0);
        due(x.bestAt(0, -1, 0, 1), 59);
        due(x.bestAt(0, -1, 1, 1), 58);
        due(x.bestAt(0, -1, 58, 1), 1);
        due(x.bestAt(0, -1, 59, 1), 0);
        due(x.bestAt(0, -1, 60, 1), 0);
        due(x.best(0, -1, 60), 0);
        due(x.best(0, -1, 61), -1);
        due(x.best(0, -1, -1), -1);
        // set to 0, being FAST it sounds at 0, being SLOW later
        x = house("bed a 0 0; clock k 10 fast 30; clock l 10 slow 30; sleeper p in a deep 0 up 10 late 1; again after;");
        due(x.best(0, -1, 0), 100);
        due(x.best(1, -1, 0), 100);
        x = house("bed a 0 0; clock k 10 fast 30; clock l 10 slow 30; sleeper p in a deep 0 up 30 late 1; again after / 3;");
        due(x.best(1, -1, 30), 0);
        due(x.best(1, -1, 60), 0);
        due(x.best(1, -1, 29), 100);
        due(x.best(0, -1, 0), 100);
        StringBuilder s = new StringBuilder(beds(12) + "clock k 10;");
        for (int i = 0; i < 12; i++) s.append(sleeper(i, "up " + (10 + i) + " late " + (i == 11 ? 9 : 0)));
        x = house(s + "again [0 < after] * 10;");
        due(x.best(0, -1, 0), 0);
        due(x.bestAt(0, -1, 0, 1), 21);

        sentence(23, "with the least COST (of the WAYS then);");
        x = house("bed a 0 0; bed b 0 5; clock k 9; clock l 8; sleeper p in a deep 0 up 60 late 2; sleeper q in b deep 0 vain 1;");
        // k beside a: 2 * 1 + 4 of ten; l beside a: 2 * 2 + 3
        due(x.best(0, -1, 0), 60);
        due(x.best(1, -1, 0), 70);
        // both: p 2 * 0.2 * 0.1 = 0.04, q 1 - 0.6 * 0.7 = 0.58
        due(x.best(0, 1, 0), 400 + 5800);
        x.pole(1, 399);
        // q hears 7 of the pole: k beside a: p 0.2, q 1 - 0.3 * 0.6
        due(x.best(0, -1, 0), 2000 + 8200);

        sentence(23, "BEST TWO (second NONE: one CLOCK):");
        x = house("bed a 0 0; clock k 6; clock l 5; sleeper p in a deep 0 up 60 late 1;");
        due(x.best(0, -1, 0), 40);
        due(x.best(1, -1, 0), 50);
        due(x.best(0, 1, 0), 2000);
        due(x.best(0, -2, 0), -1);
        due(x.best(-1, 1, 0), -1);

        // one CLOCK, two, one again, the others
        due(x.best(0, -1, 0), 40);
        due(x.best(0, 1, 0), 2000);
        due(x.best(0, 1, 60), 2000);
        due(x.best(1, 0, 60), 2000);
        due(x.best(1, -1, 60), 50);

        sentence(23, "its COST;");
        // after all that changes it
        x = house("bed a 0 0; bed b 0 6; clock k 6; sleeper p in a deep 0 up 60 late 1; sleeper q in b deep 0 up 60 late 9;");
        due(x.best(0, -1, 0), 9 * 40 + 100);
        x.hold(0);
        x.wool(1, true);
        due(x.best(0, -1, 0), 9 * 80 + 100);
        x.wool(1, false);
        due(x.best(0, -1, 0), 9 * 40 + 100);
        due(x.bestAt(0, -1, 0, 0), 1);
        x.swap(0, 1);
        due(x.bestAt(0, -1, 0, 0), 0);
        x.pole(0, 61);
        x.swap(0, 1);
        due(x.bestAt(0, -1, 0, 0), 1);
        x.drop(0);
        x.swap(0, 1);
        x.string(0, 60);
        due(x.best(0, -1, 0), 9 * 4000);
        x.drop(0);
        due(x.best(0, -1, 0), 9 * 40 + 100);
        x.pole(0, 60);
        x.wool(1, true);
        // q hears 3 of the pole, 2 of k; p but 1 of the pole
        due(x.best(0, -1, 0), 9 * 5600 + 9000);
        due(x.restore(0), true);
        due(x.bestAt(0, -1, 0, 0), 1);
        tell(x, "bed a 0 0; clock k 6; sleeper p in a deep 0 up 60 late 2;");
        due(x.best(0, -1, 0), 80);
        // two changes, one after the other
        x.hold(0);
        x.string(0, 60);
        x.drop(0);
        due(x.best(0, -1, 0), 80);
        x.pole(0, 61);
        due(x.best(0, -1, 0), 8000);
        x.string(0, 60);
        x.drop(0);
        due(x.best(0, -1, 0), 0);
        x.pole(0, 61);
        x.restore(0);
        due(x.best(0, -1, 0), 80);
        x.pole(0, 61);
        tell(x, "bed a 0 0; clock k 6; sleeper p in a deep 0 up 60 late 3;");
        due(x.best(0, -1, 0), 120);
        x.pole(0, 61);
        x.wool(0, true);
        due(x.best(0, -1, 0), 3 * 8000);
        // twelve, and a PLAN that all hear, each by another part: up by 1 - (1 - h) * (1 - 4) of ten
        StringBuilder all = new StringBuilder();
        for (int i = 0; i < 12; i++) all.append("bed b").append((char) ('a' + i)).append(" 0 ").append(i % 10).append(";");
        x = house(all + "clock k 4; clock l 5;" + sleepers(12, "up 60 late 1") + "hears loud;");
        for (int i = 0; i < 6; i++) x.pole(0, i == 5 ? 60 : 61 + i);
        due(x.best(0, 1, 0), 12L * 3 * 6 * 5 * 10000000000000L);
        due(x.best(0, -1, 0), 12L * 3 * 6 * 1000000000000L);
        x = house("bed a 0 0; clock k 3; sleeper p in a deep 0 up 60 late 9;");
        due(x.best(0, -1, 0), 630);
        for (int i = 0; i < 7; i++) x.pole(0, 61);
        due(x.best(0, -1, 0), 63000000000000000L);
        due(x.best(0, -1, 0), 63000000000000000L);

        sentence(23, "-1: no such ones, alike;");
        x = house("bed a 0 0; clock k 3; clock l 4; sleeper p in a deep 0 up 60 late 9;");
        for (int clock : new int[] {-1, 2, -2, MIN, MAX}) {
            due(x.best(clock, -1, 0), -1);
            due(x.best(clock, 0, 0), -1);
            if (clock != -1) due(x.best(0, clock, 0), -1);
        }
        for (int lead : new int[] {-1, 61, MIN, MAX}) due(x.best(0, 1, lead), -1);
        due(x.best(0, 0, 0), -1);
        due(x.best(1, 1, 0), -1);
        due(x.best(-1, -1, 0), -1);

        sentence(23, "-2 (behind that): there are no HOURS, BEDS, no room.");
        x = house("clock k 3; clock l 3;");
        due(x.best(0, -1, 0), -2);
        due(x.best(0, 1, 60), -2);
        due(x.best(0, 0, 0), -1);
        due(x.best(2, -1, 0), -1);
        due(x.best(0, 1, 61), -1);
        x = house("bed a 0 0; clock k 3; sleeper p in a deep 0 vain 9;");
        due(x.best(0, -1, 0), -2);
        x = house("bed a 0 0; clock k 3; clock l 3; sleeper p in a deep 0 up 60 late 9;");
        for (int i = 0; i < 6; i++) x.pole(0, 0);
        due(x.best(0, 1, 0) >= 0, true);
        x.pole(0, 0);
        due(x.best(0, 1, 0), -2);
        due(x.best(0, -1, 0) >= 0, true);
        x.pole(0, 0);
        due(x.best(0, -1, 0), -2);
        due(x.best(0, 1, 0), -2);
        due(x.best(0, 0, 0), -1);
        due(x.best(2, -1, 0), -1);
    }

    private static void bestIs(WakeHouse x, int... due) {
        for (int what = 0; what < due.length; what++) due(x.bestAt(0, due.length > 2 ? 1 : -1, 0, what), due[what]);
    }

    private static void bestFirst() {
        sentence(23, "of alike ones the first by the first CLOCK's BED, its HOUR, then the second one's.");
        String two = "bed a 0 0; bed b 0 1; clock k 1; clock l 2;";
        WakeHouse x = house(two + "sleeper p in a deep 0 up 90 late 0; sleeper q in b deep 0 up 30 late 0;");
        bestIs(x, 0, 30);
        bestIs(x, 0, 30, 0, 30);
        // beside a at 90 or beside b at 30: the BED goes ahead of the HOUR
        x = house(two + "sleeper p in a deep 0 up 90 late 1; sleeper q in b deep 0 up 30 late 0; hears [gap + hour == 1] * 10;");
        bestIs(x, 0, 90);
        x = house(two + "sleeper p in a deep 0 up 90 late 1; sleeper q in b deep 0 up 30 late 0; hears [loud == 2] * [gap + hour == 1] * 10;");
        bestIs(x, 0, 30, 0, 90);
        // one beside a, the other beside b
        x = house(two + "sleeper p in a deep 0 up 90 late 1; sleeper q in b deep 0 up 90 late 1; hears [gap == 0] * 10;");
        bestIs(x, 0, 90, 1, 90);
        // k beside a at 30 and l beside b at 90, or k beside a at 90 and l beside a at 30
        x = house(two + "sleeper p in a deep 0 up 30 late 1; sleeper q in b deep 0 up 90 late 1; again [0 < after] * 10;"
            + "hears [hour == 0] * [gap == 0] * 10 + [hour == 1] * ([loud == 1] * [gap == 1] + [loud == 2] * [gap == 0]) * 10;");
        due(x.best(0, 1, 0), 0);
        bestIs(x, 0, 30, 1, 90);
        // the second one may sound ahead of the first
        x = house(two.replace("b 0 1", "b 0 9") + "sleeper p in a deep 0 up 30 late 1; sleeper q in b deep 0 up 90 late 1; again [0 < after] * 10;"
            + "hears [gap == 0] * ([loud == 1] * [hour == 1] * 9 + [loud == 2] * [hour == 0] * 10);");
        due(x.best(0, 1, 0), 1000);
        bestIs(x, 1, 90, 0, 30);
        due(x.best(1, 0, 0), 1000);
        due(x.bestAt(1, 0, 0, 0), 0);
        // beside b at 30 it is heard, beside a at 90 it is not
        x = house(two + "sleeper p in b deep 0 up 90 late 1; sleeper q in a deep 0 up 30 late 0; hears [gap == 0] * [hour == 0] * 10;");
        bestIs(x, 1, 30);
        // the least COST goes ahead of all that
        x = house(two + "sleeper p in a deep 0 up 30 late 0; sleeper q in b deep 0 up 90 late 1; hears [gap == 0] * [hour == 1] * 10;");
        bestIs(x, 1, 90);
        // both LEADS held to 0 are alike, the first HOUR it is
        x = house(two + "sleeper p in a deep 0 up 5 late 1; sleeper q in b deep 0 up 9 late 1;");
        due(x.bestAt(0, 1, 60, 1), 0);
        due(x.bestAt(0, 1, 60, 3), 0);
    }

    private static void bestAt() {
        sentence(24, "In it: what 0 the first CLOCK's BED, 1 the MINUTE it is set to, 2 and 3 the second one's;");
        WakeHouse x = house("bed a 0 0; bed b 0 9; clock k 10 fast 7; clock l 10 slow 9; sleeper p in a deep 0 up 100 late 1; sleeper q in b deep 0 up 200 late 1;"
            + "again [1 < after] * 10;");
        // with a LEAD of 9 k sounds 16 ahead of each HOUR, l just then
        due(x.best(0, 1, 9), 10000);
        due(x.bestAt(1, -1, 9, 0), 0);
        due(x.bestAt(1, -1, 9, 1), 91);
        x = house("bed a 0 0; bed b 0 9; clock k 10; clock l 10 slow 9; sleeper p in a deep 0 up 100 late 1; sleeper q in b deep 0 up 200 late 1;"
            + "again [9 < after] * 10;");
        int[] due = {0, 91, 1, 191};
        for (int what = 0; what < 4; what++) due(x.bestAt(0, 1, 9, what), due[what]);
        due(x.count(3), 0);

        sentence(24, "NONE for others;");
        for (int what : new int[] {-1, 4, MIN, MAX}) {
            due(x.bestAt(0, 1, 9, what), -1);
            due(x.bestAt(0, -1, 9, what), -1);
        }

        sentence(24, "-1, -2 likewise (in this order);");
        for (int clock : new int[] {2, -2, MIN, MAX}) {
            due(x.bestAt(clock, -1, 0, 0), -1);
            due(x.bestAt(0, clock, 0, 0), -1);
        }
        due(x.bestAt(-1, -1, 0, 0), -1);
        due(x.bestAt(1, 1, 0, 0), -1);
        due(x.bestAt(0, 1, 61, 0), -1);
        due(x.bestAt(0, 1, -1, 0), -1);
        WakeHouse none = house("clock k 1; clock l 1;");
        for (int what = 0; what < 4; what++) due(none.bestAt(0, 1, 0, what), -2);
        due(none.bestAt(0, 1, 0, 4), -1);
        due(none.bestAt(0, 1, 0, -1), -1);
        due(none.bestAt(0, 0, 0, 0), -1);
        due(none.bestAt(2, -1, 0, 0), -1);
        due(none.bestAt(0, -1, 61, 2), -1);

        sentence(24, "then NONE for 2, 3 without a second one.");
        due(x.bestAt(0, -1, 0, 2), -1);
        due(x.bestAt(0, -1, 0, 3), -1);
        due(x.bestAt(0, -1, 0, 1), 100);
        due(none.bestAt(0, -1, 0, 2), -2);
        due(none.bestAt(0, -1, 0, 3), -2);
        for (int i = 0; i < 8; i++) x.pole(0, 0);
        due(x.bestAt(0, -1, 0, 2), -2);
    }

    private static void fewest() {
        String tail = "clock k 10; clock f 10 fast 5; clock s 10 slow 5;";
        sentence(25, "FEWEST: with CLOCKS like a told one, each beside some BED, set to one of the HOURS (as it then sounds):");
        WakeHouse x = house(beds(2) + tail + sleeper(0, "up 60 late 1") + sleeper(1, "up 65 late 1"));
        due(x.fewest(0), 1);
        due(x.fewest(1), 1);
        due(x.fewest(2), -2);
        x = house(beds(2) + tail + sleeper(0, "up 60 late 1") + sleeper(1, "up 65 late 1") + "again [0 < after];");
        due(x.fewest(0), 2);
        due(x.fewest(1), -2);
        // held to 399 it is in time, held to 0 too
        x = house(beds(1) + tail + sleeper(0, "up 399 late 1") + "again [0 < after];");
        due(x.fewest(2), 1);
        x = house(beds(1) + tail + sleeper(0, "up 0 late 1") + "again [0 < after];");
        due(x.fewest(1), 1);
        due(x.fewest(2), -2);
        // an empty BED in the midst
        x = house("bed a 0 0; bed b 0 4; bed c 0 2; clock k 12; sleeper p in a deep 0 up 9 late 1; sleeper q in b deep 0 up 9 late 1;");
        due(x.fewest(0), 1);

        sentence(25, "the fewest RINGS so that each SLEEPER with an HOUR surely hears one (10)");
        // six in a row: who takes the bed that most can hear needs three
        StringBuilder s = new StringBuilder();
        int[] places = {0, 3, 4, 5, 6, 9, 2, 7};
        for (int i = 0; i < 8; i++) s.append("bed b").append((char) ('a' + i)).append(" 0 ").append(places[i]).append(";");
        due(house(s + "clock k 12;" + sleepers(6, "up 9 late 1")).fewest(0), 2);
        due(house(s + "clock k 11;" + sleepers(6, "up 9 late 1")).fewest(0), 4);
        due(house(s + "clock k 10;" + sleepers(6, "up 9 late 1")).fewest(0), 6);
        due(house(s + "clock k 9;" + sleepers(6, "up 9 late 1")).fewest(0), -2);
        due(house(s + "clock k 9;" + sleepers(6, "vain 1")).fewest(0), 0);
        // twelve, each at his own HOUR alone: more than a PLAN has room for
        s = new StringBuilder(beds(12) + "clock k 10;");
        for (int i = 0; i < 12; i++) s.append(sleeper(i, "up " + (10 + i) + " late 0"));
        due(house(s + "again [0 < after];").fewest(0), 12);
        due(house(s + "again [1 < after];").fewest(0), 6);
        due(house(s.toString()).fewest(0), 1);
        // WOOL counts, the PLAN does not
        x = house(beds(1) + tail + sleeper(0, "up 60 late 1"));
        x.string(0, 60);
        x.wool(0, true);
        due(x.fewest(0), -2);

        sentence(25, "at his HOUR or ahead behind which AGAIN, by the minutes from there to his HOUR, is 0.");
        String law = "again [4 < after];";
        x = house(beds(1) + "clock k 10; clock f 10 fast 4; clock g 10 fast 5; clock s 10 slow 1;" + sleeper(0, "up 60 late 1") + law);
        due(x.fewest(0), 1);
        due(x.fewest(1), 1);
        due(x.fewest(2), -2);
        due(x.fewest(3), -2);

        sentence(25, "FEWEST;");
        due(house(clocks(1)).fewest(0), 0);
        due(house(beds(2) + "clock k 10;" + sleepers(2, "vain 1")).fewest(0), 0);
        due(house(beds(2) + "clock k 10;" + sleepers(2, "up 5 late 0")).fewest(0), 1);

        sentence(25, "-2: it can't be;");
        x = house(beds(2) + "clock k 10 slow 1;" + sleeper(0, "up 60 late 1") + sleeper(1, "up 70 late 1"));
        due(x.fewest(0), -2);
        due(house(beds(1) + "clock k 12; hears 9;" + sleepers(1, "up 5 late 0")).fewest(0), -2);

        sentence(25, "NONE: no such CLOCK.");
        for (int clock : new int[] {-1, 1, MIN, MAX}) due(x.fewest(clock), -1);
        WakeHouse nine = house(clocks(9));
        due(nine.fewest(8), 0);
        due(nine.fewest(9), -1);
    }

    private static void deaf() {
        sentence(26, "SLEEPERS (bits) with an HOUR that no such RING would surely wake;");
        StringBuilder s = new StringBuilder();
        for (int i = 0; i < 12; i++) s.append("bed b").append((char) ('a' + i)).append(" 0 ").append(Math.min(9, i)).append(";");
        WakeHouse x = house(s + "clock k 9; clock l 10; clock m 10 slow 1;" + sleepers(11, "up 90 late 1") + sleeper(11, "vain 1"));
        due(x.deaf(0), 2047);
        due(x.deaf(1), 0);
        due(x.deaf(2), 2047);
        x.wool(3, true);
        x.wool(10, true);
        x.wool(11, true);
        due(x.deaf(1), 1 << 3 | 1 << 10);
        x = house(beds(3) + "clock k 10 slow 5;" + sleeper(0, "up 60 late 1") + sleeper(1, "up 64 late 1") + sleeper(2, "up 65 late 1"));
        due(x.deaf(0), 3);
        x = house(beds(3) + "clock k 10;" + sleepers(3, "up 60 late 1") + "again deep * 0 + 1;");
        due(x.deaf(0), 7);

        sentence(26, "NONE: no such CLOCK.");
        for (int clock : new int[] {-1, 1, MIN, MAX}) due(x.deaf(clock), -1);
        due(house(clocks(9)).deaf(8), 0);
        due(house(clocks(9)).deaf(9), -1);
    }

    private static void walk() {
        sentence(27, "to another one of them it takes WALK minutes: 1, gap and 3 times floors more;");
        WakeHouse x = house("bed a 0 0; bed b 3 9; bed c 0 1; bed d 1 0; sleeper p in a deep 0; sleeper q in b deep 0; sleeper r in c deep 0; sleeper s in d deep 0;");
        due(x.walk(0, 2), 2);
        due(x.walk(0, 3), 4);
        due(x.walk(0, 1), 1 + 9 + 9);

        sentence(27, "WALK;");
        due(x.walk(1, 0), 19);
        due(x.walk(3, 1), 1 + 9 + 6);
        due(x.walk(0, 0), 1);
        x.swap(0, 2);
        due(x.walk(0, 3), 5);
        due(house("bed a 2 2; bed b 2 2; sleeper p in a deep 0; sleeper q in b deep 0;").walk(0, 1), 1);

        sentence(27, "NONE: no such SLEEPERS.");
        for (int sleeper : new int[] {-1, 4, MIN, MAX}) {
            due(x.walk(sleeper, 0), -1);
            due(x.walk(0, sleeper), -1);
            due(x.walk(sleeper, sleeper), -1);
        }
    }

    private static void shakersAre(WakeHouse x, int c, int... due) {
        int shaken = 0;
        int walks = 0;
        for (int i = 0; i < due.length; i++) {
            due(x.shaker(c, i), due[i]);
            shaken += due[i] < 0 ? 0 : 1;
            walks += due[i] < 0 ? 0 : x.walk(due[i], i);
        }
        due(x.shakes(c, 0), shaken);
        due(x.shakes(c, 1), walks);
    }

    private static void shakes() {
        sentence(28, "SHAKES, of the first 8 SLEEPERS with an HOUR:");
        StringBuilder s = new StringBuilder(beds(12) + sleeper(0, "vain 1"));
        for (int i = 1; i <= 10; i++) s.append(sleeper(i, "up " + 10 * i + " late 1"));
        shakersAre(house(s.toString()), 1, -2, -2, 1, 2, 3, 4, 5, 6, 7, -2, -2);
        // the ninth could shake any of the others, or be shaken by them
        s = new StringBuilder(beds(9) + sleepers(8, "up 20 late 1") + sleeper(8, "up 5 late 1"));
        shakersAre(house(s.toString()), 2, -2, -2, -2, -2, -2, -2, -2, -2, -2);
        s = new StringBuilder(beds(9) + sleepers(7, "up 20 late 1") + sleeper(7, "up 5 late 1") + sleeper(8, "up 50 late 1"));
        shakersAre(house(s.toString()), 2, 7, 7, -2, -2, -2, -2, -2, -2, -2);

        sentence(28, "each of them can go when his HOUR is come:");
        String ab = "bed a 0 0; bed b 1 4; sleeper p in a deep 0 up 50 late 1; sleeper q in b deep 0 up ";
        shakersAre(house(ab + "58 late 1;"), 1, -2, 0);
        shakersAre(house(ab + "42 late 1;"), 1, 1, -2);
        shakersAre(house(ab + "50 late 1;"), 2, -2, -2);

        sentence(28, "he must be there at that one's HOUR or ahead.");
        shakersAre(house(ab + "57 late 1;"), 1, -2, -2);
        shakersAre(house(ab + "59 late 1;"), 1, -2, 0);
        shakersAre(house(ab + "43 late 1;"), 1, -2, -2);
        shakersAre(house("bed a 0 0; bed b 0 0; sleeper p in a deep 0 up 0 late 1; sleeper q in b deep 0 up 1 late 1;"), 1, -2, 0);

        sentence(28, "Each can shake c at most (1, 2), each is shaken by one at most:");
        String three = beds(4) + sleeper(0, "up 10 late 1") + sleeper(1, "up 11 late 1") + sleeper(2, "up 11 late 1") + sleeper(3, "up 11 late 1");
        shakersAre(house(three), 1, -2, 0, -2, -2);
        shakersAre(house(three), 2, -2, 0, 0, -2);
        String both = beds(3) + sleeper(0, "up 10 late 1") + sleeper(1, "up 10 late 1") + sleeper(2, "up 11 late 1");
        shakersAre(house(both), 1, -2, -2, 0);
        shakersAre(house(both), 2, -2, -2, 0);

        sentence(28, "so that the most are shaken;");
        // r is near to q and alone can reach p; so he goes to p, and s comes a long way to q
        String far = "bed a 1 0; bed b 0 0; bed c 0 0; bed d 0 9; sleeper p in a deep 0 up 14 late 1; sleeper q in b deep 0 up 12 late 1;"
            + "sleeper r in c deep 0 up 10 late 1; sleeper s in d deep 0 up 2 late 1;";
        shakersAre(house(far), 1, 2, 3, -2, -2);
        shakersAre(house(far), 2, 2, 2, -2, -2);

        sentence(28, "of these with the least sum of WALKS;");
        shakersAre(house("bed a 0 5; bed b 0 0; bed c 0 1; bed d 0 6; sleeper p in a deep 0 up 0 late 1; sleeper q in b deep 0 up 0 late 1;"
            + "sleeper r in c deep 0 up 30 late 1; sleeper s in d deep 0 up 30 late 1;"), 1, -2, -2, 1, 0);
        // one more shaken, though by the longest of WALKS
        shakersAre(house("bed a 0 0; bed b 3 9; sleeper p in a deep 0 up 0 late 1; sleeper q in b deep 0 up 19 late 1;"), 1, -2, 0);

        // q alone can be shaken by r, so p, though nearer to r, is left to s, and u to t
        String chain = "bed a 0 2; bed b 0 0; bed c 0 1; bed d 0 6; bed e 0 9; bed f 0 3; sleeper p in a deep 0 up 16 late 1; sleeper q in b deep 0 up 14 late 1;"
            + "sleeper r in c deep 0 up 12 late 1; sleeper s in d deep 0 up 11 late 1; sleeper t in e deep 0 up 10 late 1; sleeper u in f deep 0 up 17 late 1;";
        WakeHouse chained = house(chain);
        shakersAre(chained, 1, 3, 2, -2, -2, -2, 4);
        shakersAre(chained, 2, 2, 2, -2, -2, -2, 3);
        shakersAre(chained, 1, 3, 2, -2, -2, -2, 4);

        sentence(28, "of these the first: SLEEPER 0 by the least (nobody last), then SLEEPER 1, .. .");
        shakersAre(house(beds(4) + sleeper(0, "up 50 late 1") + sleeper(1, "up 50 late 1") + sleeper(2, "up 10 late 1") + sleeper(3, "up 10 late 1")), 1, 2, 3, -2, -2);
        shakersAre(house(beds(4) + sleeper(0, "up 50 late 1") + sleeper(1, "up 50 late 1") + sleeper(2, "up 10 late 1") + sleeper(3, "up 10 late 1")), 2, 2, 2, -2, -2);
        shakersAre(house(beds(3) + sleeper(0, "up 50 late 1") + sleeper(1, "up 50 late 1") + sleeper(2, "up 10 late 1")), 1, 2, -2, -2);
        shakersAre(house(beds(8) + sleepers(4, "up 50 late 1") + sleeper(4, "up 10 late 1") + sleeper(5, "up 10 late 1")
            + sleeper(6, "up 10 late 1") + sleeper(7, "up 10 late 1")), 1, 4, 5, 6, 7, -2, -2, -2, -2);
        shakersAre(house(beds(8) + sleepers(7, "up 50 late 1") + sleeper(7, "up 10 late 1")), 1, 7, -2, -2, -2, -2, -2, -2, -2);
        shakersAre(house(beds(8) + sleepers(7, "up 50 late 1") + sleeper(7, "up 10 late 1")), 2, 7, 7, -2, -2, -2, -2, -2, -2);

        // all WALKS are 3: p by r and q by t, or p by s and q by r
        shakersAre(house("bed a 0 2; bed b 0 6; bed c 0 4; bed d 0 0; bed e 0 8; sleeper p in a deep 0 up 13 late 1; sleeper q in b deep 0 up 13 late 1;"
            + "sleeper r in c deep 0 up 10 late 1; sleeper s in d deep 0 up 10 late 1; bed f 0 0; sleeper x in f deep 0; sleeper t in e deep 0 up 10 late 1;"), 1, 2, 5, -2, -2, -2, -2);

        // the last two of eight likewise: the seventh by the first and the last by the sixth, or the seventh by the second
        shakersAre(house("bed a 0 4; bed b 0 0; bed c 3 0; bed d 3 1; bed e 3 2; bed f 0 8; bed g 0 2; bed h 0 6;"
            + "sleeper sa in a deep 0 up 10 late 1; sleeper sb in b deep 0 up 10 late 1; sleeper sc in c deep 0 up 10 late 1; sleeper sd in d deep 0 up 10 late 1;"
            + "sleeper se in e deep 0 up 10 late 1; sleeper sf in f deep 0 up 10 late 1; sleeper sg in g deep 0 up 13 late 1; sleeper sh in h deep 0 up 13 late 1;"),
            1, -2, -2, -2, -2, -2, -2, 0, 5);
        shakersAre(house(beds(8) + sleepers(7, "up 10 late 1") + sleeper(7, "up 11 late 1")), 1, -2, -2, -2, -2, -2, -2, -2, 0);

        sentence(28, "SHAKES: what 0 how many are shaken, 1 the sum of WALKS;");
        WakeHouse x = house(far);
        due(x.shakes(1, 0), 2);
        due(x.shakes(1, 1), 4 + 10);
        due(x.shakes(2, 0), 2);
        due(x.shakes(2, 1), 4 + 1);
        x = house(beds(3) + sleepers(3, "vain 1"));
        due(x.shakes(1, 0), 0);
        due(x.shakes(1, 1), 0);

        sentence(28, "NONE: no such c, what.");
        for (int c : new int[] {0, 3, -1, MIN, MAX}) {
            due(x.shakes(c, 0), -1);
            due(x.shakes(c, 1), -1);
        }
        for (int what : new int[] {-1, 2, MIN, MAX}) due(x.shakes(1, what), -1);
    }

    private static void shaker() {
        sentence(29, "Who shakes a SLEEPER in it;");
        WakeHouse x = house(beds(4) + sleeper(0, "") + sleeper(1, "up 20 late 1") + sleeper(2, "") + sleeper(3, "up 10 late 1"));
        due(x.shaker(1, 1), 3);

        sentence(29, "-2: nobody;");
        due(x.shaker(1, 3), -2);
        due(x.shaker(1, 0), -2);
        due(x.shaker(2, 2), -2);

        sentence(29, "NONE: no such ones.");
        for (int c : new int[] {0, 3, -1, MIN, MAX}) due(x.shaker(c, 1), -1);
        for (int sleeper : new int[] {-1, 4, MIN, MAX}) due(x.shaker(1, sleeper), -1);
        due(new WakeHouse().shaker(1, 0), -1);
    }

    private static void twiceIs(WakeHouse x, int loud, int w, long ways, int... minutes) {
        due(x.twice(0, loud, minutes.length, w), ways);
        for (int i = 0; i < minutes.length; i++) due(x.twiceAt(0, loud, minutes.length, w, i), minutes[i]);
    }

    private static void twice() {
        String p = "bed a 0 0; bed b 0 0; sleeper p in a deep 0 up 30 late 1; sleeper q in b deep 0;";
        sentence(30, "TWICE: for a SLEEPER with an HOUR k RINGS (1 .. 3) of a LOUD from his own BED");
        WakeHouse x = house(p + "again [5 < after] * 10;");
        twiceIs(x, 9, 30, 90, 25);
        twiceIs(x, 9, 30, 9900, 20, 25);
        twiceIs(x, 9, 30, 999000, 15, 20, 25);
        due(x.twice(0, 9, 0, 30), -1);
        due(x.twice(0, 9, 4, 30), -1);
        due(x.twice(0, 1, 1, 0), 10);
        due(x.twice(0, 12, 1, 0), 100);
        x.swap(0, 1);
        due(x.twice(0, 9, 1, 0), 90);
        x.wool(0, true);
        due(x.twice(0, 9, 1, 0), 50);

        sentence(30, "at unlike MINUTES, 0 .. w ahead of his HOUR (w 0 .. 30; HOUR - w at least 0):");
        x = house(p + "again after * 2;");
        twiceIs(x, 5, 0, 50, 30);
        // at 29: 5, of these 8 of ten stay; at 30 half of the rest: 4 + 3
        twiceIs(x, 5, 30, 7000, 29, 30);
        twiceIs(x, 5, 1, 7000, 29, 30);
        twiceIs(x, 5, 30, 780000, 28, 29, 30);
        twiceIs(x, 5, 2, 780000, 28, 29, 30);
        // the farthest ahead is best: just w
        x = house(p + "again [after < 30] * 9;");
        twiceIs(x, 9, 30, 90, 0);
        twiceIs(x, 9, 29, 9, 1);
        x = house("bed a 0 0; sleeper p in a deep 0 up 29 late 1;");
        due(x.twice(0, 9, 1, 30), -1);
        due(x.twice(0, 9, 1, 29), 90);
        x = house("bed a 0 0; sleeper p in a deep 0 up 399 late 1; hears hour + 3;");
        due(x.twice(0, 9, 1, 30), 90);
        due(x.twice(0, 9, 1, 31), -1);
        due(x.twice(0, 9, 1, -1), -1);
        // the farthest ahead, and just at the HOUR
        x = house(p + "again [0 < after] * [after < 30] * 10;");
        twiceIs(x, 5, 30, 7500, 0, 30);
        x = house(p + "again 10 - [after == 15] * 10 - [after == 0] * 10;");
        twiceIs(x, 5, 30, 875000, 0, 15, 30);
        x = house("bed a 0 0; sleeper p in a deep 0 up 0 late 1;");
        due(x.twice(0, 9, 1, 0), 90);
        due(x.twice(0, 9, 1, 1), -1);

        sentence(30, "those by which he is most likely UP (these alone; of WAYS 100 to the k);");
        x = house(p);
        due(x.twice(0, 3, 1, 30), 30);
        due(x.twice(0, 3, 2, 30), 5100);
        due(x.twice(0, 3, 3, 30), 657000);
        for (int i = 0; i < 8; i++) x.string(0, 30);
        due(x.twice(0, 3, 1, 30), 30);
        due(x.count(3), 8);
        x = house("bed a 0 0; sleeper p in a deep 0 up 60 late 1; hears [hour == 0] * 7 + [hour == 1] * 2;");
        twiceIs(x, 1, 30, 70, 30);
        twiceIs(x, 1, 0, 20, 60);
        x = house("bed a 0 0; sleeper p in a deep 0 up 70 late 1; hears hour * 9;");
        twiceIs(x, 1, 30, 90, 60);
        twiceIs(x, 1, 30, 9900, 60, 61);

        sentence(30, "of alike ones the first: the earliest RING the earliest, then the next one.");
        x = house(p);
        twiceIs(x, 10, 30, 100, 0);
        twiceIs(x, 10, 30, 10000, 0, 1);
        twiceIs(x, 10, 30, 1000000, 0, 1, 2);
        twiceIs(x, 10, 5, 1000000, 25, 26, 27);
        x = house(p + "hears 0;");
        twiceIs(x, 10, 30, 0, 0, 1, 2);
        // the second must be 10 ahead, the first is no matter
        x = house(p + "again [10 < after] * 5 + [after < 10] * 5;");
        twiceIs(x, 10, 30, 10000, 0, 20);

        sentence(30, "TWICE: WAYS by which he is UP;");
        x = house(p + "again 5;");
        due(x.twice(0, 6, 1, 3), 30);
        // 6, of these 3 stay; 6 of the 7 others: 3 + 4.2 = 7.2; half of them
        due(x.twice(0, 6, 2, 3), 3600);

        sentence(30, "-1: no such ones, no HOUR, HOUR - w below 0, w + 1 below k.");
        for (int sleeper : new int[] {-1, 2, MIN, MAX}) due(x.twice(sleeper, 6, 1, 3), -1);
        for (int loud : new int[] {0, 13, -1, MIN, MAX}) due(x.twice(0, loud, 1, 3), -1);
        for (int k : new int[] {0, 4, -1, MIN, MAX}) due(x.twice(0, 6, k, 3), -1);
        for (int w : new int[] {-1, 31, MIN, MAX}) due(x.twice(0, 6, 1, w), -1);
        due(x.twice(1, 6, 1, 0), -1);
        due(house("bed a 0 0; sleeper p in a deep 0 up 2 late 1;").twice(0, 6, 1, 3), -1);
        due(house("bed a 0 0; sleeper p in a deep 0 up 3 late 1;").twice(0, 6, 1, 3), 60);
        due(x.twice(0, 6, 2, 0), -1);
        due(x.twice(0, 6, 2, 1) > 0, true);
        due(x.twice(0, 6, 3, 1), -1);
        due(x.twice(0, 6, 3, 2) > 0, true);
    }

    private static void twiceAt() {
        WakeHouse x = house("bed a 0 0; bed b 0 0; sleeper p in a deep 0 up 30 late 1; sleeper q in b deep 0;");
        sentence(31, "The MINUTE of its i-th RING, the earliest first;");
        due(x.twiceAt(0, 9, 3, 2, 0), 28);
        due(x.twiceAt(0, 9, 3, 2, 1), 29);
        due(x.twiceAt(0, 9, 3, 2, 2), 30);

        sentence(31, "NONE: not so many, likewise.");
        for (int k = 1; k <= 3; k++) {
            for (int i : new int[] {k, k + 1, -1, MIN, MAX}) due(x.twiceAt(0, 9, k, 9, i), -1);
            due(x.twiceAt(0, 9, k, 9, k - 1) >= 0, true);
        }
        for (int sleeper : new int[] {-1, 2, MIN, MAX}) due(x.twiceAt(sleeper, 6, 1, 3, 0), -1);
        for (int loud : new int[] {0, 13, MIN, MAX}) due(x.twiceAt(0, loud, 1, 3, 0), -1);
        for (int k : new int[] {0, 4, MIN, MAX}) due(x.twiceAt(0, 6, k, 3, 0), -1);
        for (int w : new int[] {-1, 31, MIN, MAX}) due(x.twiceAt(0, 6, 1, w, 0), -1);
        due(x.twiceAt(1, 6, 1, 0, 0), -1);
        due(house("bed a 0 0; sleeper p in a deep 0 up 2 late 1;").twiceAt(0, 6, 1, 3, 0), -1);
        due(x.twiceAt(0, 6, 2, 0, 0), -1);
        due(x.twiceAt(0, 6, 3, 1, 0), -1);
    }

    /** p and q lie wrong by a sound beside a, r and s too: 18 of ten times, with one SWAP 9, with two 2. */
    private static WakeHouse wrongBeds() {
        WakeHouse x = house("bed a 0 0; bed b 0 9; bed c 0 8; bed d 0 1; clock k 10; sleeper p in b deep 0 up 50 late 5; sleeper q in a deep 0 vain 5;"
            + "sleeper r in c deep 0 up 50 late 5; sleeper s in d deep 0 vain 5;");
        x.ring(0, 0, 50);
        return x;
    }

    private static void swaps() {
        sentence(32, "SWAPS: two BEDS are changed (whoever lies there lies in the other one):");
        WakeHouse x = house("bed a 0 0; bed b 0 9; bed c 3 0; clock k 10; sleeper p in b deep 0 up 50 late 5;");
        x.ring(0, 0, 50);
        due(x.swaps(0), 1);
        due(x.swapAt(0, 0), 1);
        x = house("bed a 0 0; bed b 0 9; clock k 10; sleeper p in b deep 0 up 50 late 5; sleeper q in a deep 0 vain 5;");
        x.ring(0, 0, 50);
        x.string(1, 60);
        due(x.swaps(4), -2);
        due(x.swaps(5), 1);
        due(x.of(0, 0), 1);

        sentence(32, "the fewest (0 .. 2) so that COST is no more than L times all WAYS (L 0 .. 99);");
        x = wrongBeds();
        due(x.cost(), 1800);
        due(x.swaps(99), 0);
        due(x.swaps(18), 0);
        due(x.swaps(17), 1);
        due(x.swaps(9), 1);
        due(x.swaps(8), 2);
        due(x.swaps(2), 2);
        due(x.swaps(1), -2);
        due(x.swaps(0), -2);
        x.pole(0, 399);
        due(x.swaps(0), -2);
        WakeHouse late = house(beds(12) + sleepers(11, "up 9 late 9"));
        due(late.cost(), 99);
        due(late.swaps(99), 0);
        due(late.swaps(98), -2);
        late = house(beds(12) + sleepers(11, "up 9 late 9") + sleeper(11, "up 9 late 1"));
        due(late.swaps(99), -2);
        for (int i = 0; i < 8; i++) late.pole(0, 10);
        due(late.swaps(99), -2);
        late = house(beds(12) + sleepers(11, "up 9 late 9"));
        for (int i = 0; i < 8; i++) late.pole(0, 10);
        due(late.swaps(99), 0);
        due(late.swaps(98), -2);
        // nothing costs anything
        due(house(beds(2) + sleepers(2, "")).swaps(0), 0);
        due(new WakeHouse().swaps(0), 0);

        sentence(32, "of these the first by the first SWAP's lesser BED, its greater one, then the second one's.");
        x = house("bed a 0 9; bed b 0 9; bed c 0 0; bed d 0 0; clock k 10; sleeper p in a deep 0 up 50 late 5;");
        x.ring(0, 2, 50);
        due(x.swapAt(0, 0), 2);
        x = house("bed a 0 9; bed b 0 9; bed c 0 0; bed d 0 0; clock k 10; sleeper p in b deep 0 up 50 late 5;");
        x.ring(0, 2, 50);
        due(x.swapAt(0, 0), 102);
        // p and q both lie far off: (a c) goes ahead of (a d), then b with what is left
        x = house("bed a 0 9; bed b 0 9; bed c 0 0; bed d 0 0; clock k 10; sleeper p in b deep 0 up 50 late 5; sleeper q in a deep 0 up 50 late 5;");
        x.ring(0, 2, 50);
        due(x.swaps(0), 2);
        due(x.swapAt(0, 0), 2);
        due(x.swapAt(0, 1), 103);
        // p must get into c, q into a: there are three ways for that, the first is by way of a
        x = house("bed a 3 9; bed b 0 9; bed c 0 0; bed d 0 1; clock k 10; sleeper p in b deep 0 up 50 late 9; sleeper q in c deep 0 vain 9; sleeper r in d deep 0 vain 1;");
        x.ring(0, 2, 50);
        due(x.swaps(2), 1);
        due(x.swapAt(2, 0), 102);
        due(x.swaps(1), 2);
        due(x.swapAt(1, 0), 1);
        due(x.swapAt(1, 1), 2);
        due(x.swaps(0), -2);

        sentence(32, "SWAPS: how many;");
        x = wrongBeds();
        due(x.swaps(18), 0);
        due(x.swaps(10), 1);
        due(x.swaps(3), 2);
        same(look(x), look(wrongBeds()));

        sentence(32, "-2: with two it can't be;");
        due(x.swaps(1), -2);
        due(house(beds(1) + sleepers(1, "up 5 late 1")).swaps(0), -2);

        sentence(32, "NONE: no such L.");
        for (int l : new int[] {-1, 100, MIN, MAX}) due(x.swaps(l), -1);
        due(new WakeHouse().swaps(-1), -1);
        due(new WakeHouse().swaps(100), -1);
        due(new WakeHouse().swaps(99), 0);
    }

    private static void swapAt() {
        sentence(33, "The i-th SWAP: 100 * the lesser BED + the greater one;");
        WakeHouse x = wrongBeds();
        due(x.swapAt(9, 0), 1);
        due(x.swapAt(2, 0), 1);
        due(x.swapAt(2, 1), 203);
        StringBuilder s = new StringBuilder();
        for (int i = 0; i < 12; i++) s.append("bed b").append((char) ('a' + i)).append(i == 11 ? " 0 0;" : " 3 9;");
        x = house(s + "clock k 10; sleeper p in bk deep 0 up 50 late 5;");
        x.ring(0, 11, 50);
        due(x.swapAt(0, 0), 1011);

        // bed a has no part in it
        x = house("bed z 3 9; bed a 0 0; bed b 0 9; bed c 0 8; bed d 0 1; clock k 10; sleeper p in b deep 0 up 50 late 5; sleeper q in a deep 0 vain 5;"
            + "sleeper r in c deep 0 up 50 late 5; sleeper s in d deep 0 vain 5;");
        x.ring(0, 1, 50);
        due(x.swaps(2), 2);
        due(x.swapAt(2, 0), 102);
        due(x.swapAt(2, 1), 304);

        sentence(33, "NONE: not so many, no such L.");
        x = wrongBeds();
        due(x.swapAt(18, 0), -1);
        due(x.swapAt(9, 1), -1);
        due(x.swapAt(2, 2), -1);
        due(x.swapAt(1, 0), -1);
        for (int i : new int[] {-1, -2, 2, 3, MIN, MAX}) due(x.swapAt(2, i), -1);
        for (int l : new int[] {-1, 100, MIN, MAX}) {
            due(x.swapAt(l, 0), -1);
            due(x.swapAt(l, 1), -1);
        }
    }

    private static void worth() {
        sentence(34, "WORTH of WOOL for a SLEEPER: how much less the COST is with it than without (less than 0: more).");
        WakeHouse x = house("bed a 0 0; bed b 0 1; bed c 0 9; sleeper p in a deep 0 up 50 late 2; sleeper q in b deep 0 vain 3; sleeper r in c deep 0 vain 9;");
        x.pole(0, 50);
        // p hears 7, with WOOL 3; q 6, with it 2; r none
        due(x.worth(0), -80);
        due(x.worth(1), 120);
        due(x.worth(2), 0);
        x.wool(0, true);
        x.wool(1, true);
        due(x.worth(0), -80);
        due(x.worth(1), 120);
        due(x.of(0, 5), 1);
        due(x.of(2, 5), 0);

        sentence(34, "WORTH;");
        x.string(1, 7);
        due(x.worth(1), 0);
        due(x.worth(0), -8000);
        due(house(beds(1) + sleepers(1, "up 5 late 1")).worth(0), 0);
        WakeHouse most = house("bed a 0 0; sleeper p in a deep 0 vain 9; hears 10 - wool * 10;");
        for (int i = 0; i < 8; i++) most.pole(0, i);
        due(most.worth(0), 90000000000000000L);

        sentence(34, "-1000000000000000000: no such SLEEPER.");
        for (int sleeper : new int[] {-1, 3, MIN, MAX}) due(x.worth(sleeper), -1000000000000000000L);
        due(new WakeHouse().worth(0), -1000000000000000000L);
    }

    private static void whose() {
        sentence(35, "WHOSE: of those with a WORTH above 0 the w with the greatest, of alike ones the least number (bits).");
        WakeHouse x = house(beds(12) + sleeper(0, "up 50 late 1") + sleeper(1, "vain 2") + sleeper(2, "vain 0") + sleeper(3, "vain 3")
            + sleeper(4, "vain 2") + sleeper(5, "vain 1") + sleeper(6, "vain 2"));
        due(x.whose(12), 0);
        x.pole(0, 50);
        int[] due = {0, 8, 8 + 2, 8 + 2 + 16, 8 + 2 + 16 + 64, 8 + 2 + 16 + 64 + 32};
        for (int w = 0; w <= 12; w++) due(x.whose(w), due[Math.min(w, 5)]);
        x.wool(3, true);
        due(x.whose(1), 8);

        sentence(35, "WHOSE;");
        x = house(beds(12) + sleepers(12, "vain 1"));
        x.pole(0, 0);
        for (int w = 0; w <= 12; w++) due(x.whose(w), (1 << w) - 1);
        due(x.count(5), 0);

        sentence(35, "NONE: no such w (0 .. 12).");
        for (int w : new int[] {-1, 13, MIN, MAX}) due(x.whose(w), -1);
        due(new WakeHouse().whose(12), 0);
        due(new WakeHouse().whose(13), -1);
    }

    private static void roundIs(String text, int e, int done, int... order) {
        WakeHouse x = house(text);
        due(x.round(e), done);
        for (int i = 0; i < order.length; i++) due(x.roundAt(e, i), order[i]);
        due(x.roundAt(e, order.length), -1);
    }

    private static String two(int placeP, int hourP, int placeQ, int hourQ) {
        return "bed a 0 " + placeP + "; bed b 3 " + placeQ + "; sleeper p in a deep 0 up " + hourP + " late 1; sleeper q in b deep 0 up " + hourQ + " late 1;";
    }

    private static String three(int placeP, int hourP, int placeQ, int hourQ, int placeR, int hourR) {
        return two(placeP, hourP, placeQ, hourQ) + "bed c 1 " + placeR + "; sleeper r in c deep 0 up " + hourR + " late 1;";
    }

    private static void round() {
        sentence(36, "THE ROUND: the man with the pole is at PLACE 0 at MINUTE 0;");
        String one = "bed a 0 9; sleeper p in a deep 0 up ";
        roundIs(one + "9 late 1;", 0, 9, 0);
        roundIs(one + "8 late 1;", 0, -2);
        roundIs(one + "8 late 1;", 60, -2);
        roundIs("bed a 3 0; sleeper p in a deep 0 up 0 late 1;", 0, 0, 0);

        sentence(36, "from PLACE to PLACE it takes as many minutes as they are apart (FLOORS don't matter);");
        roundIs(two(2, 10, 9, 17), 0, 17, 0, 1);
        roundIs(two(2, 10, 9, 16), 0, -2);
        roundIs(two(9, 10, 2, 17), 0, 17, 0, 1);
        roundIs(two(5, 10, 5, 10), 0, 10, 0, 1);
        roundIs(two(5, 10, 6, 10), 0, -2);
        roundIs(two(0, 0, 9, 9), 0, 9, 0, 1);

        sentence(36, "he knocks for each of the first 8 SLEEPERS with an HOUR");
        StringBuilder s = new StringBuilder(beds(11) + "bed far 0 9;" + sleeper(0, "vain 1"));
        for (int i = 1; i <= 8; i++) s.append(sleeper(i, "up " + (90 - i) + " late 1"));
        // the ninth can't be reached at all, but has no part in it
        roundIs(s + "sleeper q in far deep 0 up 0 late 1;", 0, 89, 8, 7, 6, 5, 4, 3, 2, 1);
        s = new StringBuilder(beds(11) + "bed far 0 9;" + sleeper(0, "vain 1"));
        for (int i = 1; i <= 7; i++) s.append(sleeper(i, "up " + (90 - i) + " late 1"));
        roundIs(s + "sleeper q in far deep 0 up 0 late 1;", 0, -2);

        sentence(36, "at his HOUR or no more than e minutes ahead (0 .. 60), waiting if he is early:");
        for (int e = 0; e <= 60; e++) roundIs("bed a 0 3; sleeper p in a deep 0 up 70 late 1;", e, 70 - e, 0);
        for (int e = 0; e <= 60; e += 20) roundIs("bed a 0 3; sleeper p in a deep 0 up 30 late 1;", e, Math.max(3, 30 - e), 0);
        roundIs(two(4, 20, 9, 20), 4, -2);
        roundIs(two(4, 20, 9, 20), 5, 20, 0, 1);
        roundIs(two(4, 20, 9, 20), 6, 19, 0, 1);

        sentence(36, "an order of them in which it can be, that is done soonest;");
        // by numbers (9 first) it takes till 14, the other way till 9
        roundIs(two(9, 60, 4, 60), 60, 9, 1, 0);
        roundIs(two(9, 20, 1, 21), 20, 9, 1, 0);
        roundIs(two(9, 9, 1, 60), 60, 9, 1, 0);
        // p at 40 or later, q by 30: q first, though p is nearer
        roundIs(two(1, 50, 9, 30), 10, 40, 1, 0);
        roundIs(two(1, 50, 9, 30), 0, 50, 1, 0);

        // q (1 .. 5) would be missed by him who waits for p (5 .. 9) at 4
        roundIs(two(4, 9, 5, 5), 4, 6, 1, 0);
        roundIs(two(5, 6, 4, 7), 4, 5, 1, 0);
        roundIs(three(3, 12, 6, 8, 0, 6), 8, 7, 2, 0, 1);
        roundIs(three(2, 6, 2, 8, 5, 9), 8, 5, 0, 1, 2);
        roundIs(three(6, 7, 3, 12, 6, 8), 7, 9, 0, 2, 1);
        roundIs(three(5, 8, 0, 7, 3, 8), 4, 8, 1, 2, 0);
        // what was found for one e is no matter for the next
        WakeHouse twice = house(two(1, 7, 0, 5));
        due(twice.round(4), 3);
        due(twice.round(7), 1);
        due(twice.roundAt(7, 0), 1);
        due(twice.roundAt(7, 1), 0);

        sentence(36, "of alike ones the first by numbers.");
        roundIs(two(0, 60, 0, 60), 60, 0, 0, 1);
        // he waits till 40 for either one, and is beside the other at 48
        roundIs(two(1, 60, 9, 60), 20, 48, 0, 1);
        roundIs(two(9, 60, 1, 60), 20, 48, 0, 1);
        String three = three(5, 30, 5, 10, 5, 20);
        roundIs(three, 0, 30, 1, 2, 0);
        roundIs(three, 9, 21, 1, 2, 0);
        roundIs(three, 10, 20, 1, 0, 2);
        roundIs(three, 15, 15, 1, 0, 2);
        roundIs(three, 20, 10, 0, 1, 2);
        roundIs(three, 60, 5, 0, 1, 2);
        roundIs(beds(8) + sleepers(8, "up 60 late 1"), 0, 60, 0, 1, 2, 3, 4, 5, 6, 7);
        // one object, asked again and again
        WakeHouse x = house(three);
        for (int turn = 0; turn < 2; turn++) {
            for (int e = 60; e >= 0; e -= 12) {
                int done = x.round(e);
                due(done, e == 60 || e == 48 || e == 36 ? 5 : e == 24 ? 6 : e == 12 ? 18 : 30);
                due(x.roundAt(e, 0), e < 20 ? 1 : 0);
                due(x.roundAt(e, 2), e == 0 ? 0 : 2);
            }
        }

        sentence(36, "THE ROUND: the MINUTE at which it is done (0 if nobody has an HOUR);");
        due(house(two(2, 10, 9, 17)).round(3), 14);
        due(new WakeHouse().round(60), 0);
        due(house(beds(2) + sleepers(2, "vain 1")).round(0), 0);

        sentence(36, "-2: it can't be;");
        due(house("bed a 0 1; sleeper p in a deep 0 up 0 late 1;").round(0), -2);
        due(house("bed a 0 1; sleeper p in a deep 0 up 0 late 1;").round(60), -2);
        due(house(two(0, 30, 9, 30)).round(8), -2);

        sentence(36, "NONE: no such e.");
        for (int e : new int[] {-1, 61, MIN, MAX}) {
            due(new WakeHouse().round(e), -1);
            due(house(two(1, 30, 2, 40)).round(e), -1);
        }
    }

    private static void roundAt() {
        sentence(37, "Its i-th SLEEPER;");
        WakeHouse x = house(beds(4) + sleeper(0, "") + sleeper(1, "up 40 late 1") + sleeper(2, "vain 1") + sleeper(3, "up 30 late 1"));
        due(x.roundAt(0, 0), 3);
        due(x.roundAt(0, 1), 1);
        due(x.roundAt(60, 0), 1);

        sentence(37, "NONE: not so many, it can't be, no such e.");
        for (int i : new int[] {-1, 2, 8, MIN, MAX}) due(x.roundAt(0, i), -1);
        for (int e : new int[] {-1, 61, MIN, MAX}) due(x.roundAt(e, 0), -1);
        WakeHouse eight = house(beds(9) + sleepers(9, "up 60 late 1"));
        due(eight.roundAt(0, 7), 7);
        due(eight.roundAt(0, 8), -1);
        WakeHouse never = house(two(0, 30, 9, 30));
        due(never.roundAt(8, 0), -1);
        due(never.roundAt(9, 0), 0);
        due(never.roundAt(8, 0), -1);
        due(new WakeHouse().roundAt(0, 0), -1);
        due(house(beds(1) + sleepers(1, "vain 1")).roundAt(0, 0), -1);
    }
}
