/** Each promise of the document by its number: ordinary inputs, edges, wrong inputs; answers worked out by hand. */
public final class PromiseTest {
    private static int checks = 0;
    private static int wrong = 0;

    private static void due(String what, long got, long want) {
        checks++;
        if (got != want) {
            wrong++;
            System.out.println(what + " answered " + got + ", due is " + want);
        }
    }

    private static void due(String what, boolean got, boolean want) {
        due(what, got ? 1L : 0L, want ? 1L : 0L);
    }

    /** Feeds a text, in pieces of twenty bytes, and takes back what was filled up. */
    private static int tell(WakeHouse x, String text) {
        StringBuilder s = new StringBuilder(text);
        while (s.length() % 20 != 0) s.append('#');
        for (int i = 0; i < s.length(); i += 20) {
            int[] five = new int[5];
            for (int j = 0; j < 20; j++) five[j / 4] = five[j / 4] << 8 | s.charAt(i + j) & 255;
            x.feed(five[0], five[1], five[2], five[3], five[4]);
        }
        x.back(s.length() - text.length());
        return x.read();
    }

    /** Feeds all of a text and takes back all but its first bytes: what was there must not matter. */
    private static void cut(String text, int bytes, int place) {
        WakeHouse x = new WakeHouse();
        tell(x, " ".repeat(60));
        StringBuilder s = new StringBuilder(text);
        while (s.length() % 20 != 0) s.append(' ');
        for (int i = 0; i < s.length(); i += 20) {
            int[] five = new int[5];
            for (int j = 0; j < 20; j++) five[j / 4] = five[j / 4] << 8 | s.charAt(i + j);
            x.feed(five[0], five[1], five[2], five[3], five[4]);
        }
        due("3 back", x.back(s.length() - bytes), bytes);
        due("4 read of the first " + bytes + " of " + text, x.read(), 1);
        due("5 place in the first " + bytes + " of " + text, x.place(), place);
    }

    private static WakeHouse house(String text) {
        WakeHouse x = new WakeHouse();
        due("read of " + text, tell(x, text), 0);
        return x;
    }

    private static void fault(String text, int number, int place) {
        WakeHouse x = new WakeHouse();
        due("read of " + text, tell(x, text), number);
        due("place of " + text, x.place(), place);
        due("tape behind " + text, x.count(6), 0);
    }

    private static String times(String s, int n) {
        return s.repeat(n);
    }

    /** Three beds, two clocks, x and y with an hour, z without. */
    private static final String PLAIN = "bed a 0 0; bed b 0 2; bed c 1 0; clock k 10; clock f 6 fast 5;"
        + "sleeper x in a deep 1 up 60 late 2; sleeper y in b deep 3 up 90 late 1; sleeper z in c deep 0 vain 3;";

    private static final String FOUR_HUNDRED = "hears 1;again 1" + "+1".repeat(197) + ";";

    public static void main(String[] args) {
        newObject();
        tapeCalls();
        goodTexts();
        syntaxFaults();
        roomFaults();
        senseFaults();
        faultsChangeNothing();
        sleepersAndBeds();
        laws();
        planCalls();
        woolAndSwap();
        waysUpWoken();
        costAndWorst();
        hoursAndBest();
        fewestAndDeaf();
        walkAndShakes();
        twice();
        swaps();
        worth();
        round();
        mornings();
        mondays();
        fire();
        lots();
        slots();
        counts();
        System.out.println(checks + " checks, " + wrong + " wrong");
        if (wrong != 0) System.exit(1);
    }

    /** Promise 1. */
    private static void newObject() {
        WakeHouse x = new WakeHouse();
        for (int i = 0; i < 8; i++) due("1 count(" + i + ")", x.count(i), 0);
        due("1 place()", x.place(), -1);
        due("1 of(0, 0)", x.of(0, 0), -1);
        due("1 lies(0)", x.lies(0), -1);
        due("1 hears", x.hears(0, 1, 0, 0), -1);
        due("1 again", x.again(0, 0), -1);
        due("1 ring", x.ring(0, 0, 0), -1);
        due("1 string", x.string(0, 0), -1);
        due("1 pole", x.pole(0, 0), -1);
        due("1 ways", x.ways(), 1);
        due("1 cost", x.cost(), 0);
        due("1 swaps", x.swaps(0), 0);
        due("1 morning", x.morning(0, 0, 0), -1);
        due("1 fire", x.fire(0, 1, false), -1);
        due("1 reaches", x.reaches(0, 1, true), -1);
        due("1 day", x.day(5, 999), 0);
        due("1 two objects", new WakeHouse().feed(0, 0, 0, 0, 0), 20);
        due("1 two objects", x.count(6), 0);
    }

    /** Promises 2 and 3. */
    private static void tapeCalls() {
        WakeHouse x = new WakeHouse();
        for (int i = 1; i <= 100; i++) due("2 feed", x.feed(i, i, i, i, i), 20 * i);
        due("2 feed of a full tape", x.feed(1, 2, 3, 4, 5), -1);
        due("2 count", x.count(6), 2000);
        due("3 back(-1)", x.back(-1), -1);
        due("3 back(2001)", x.back(2001), -1);
        due("3 back(MIN)", x.back(Integer.MIN_VALUE), -1);
        due("3 back(0)", x.back(0), 2000);
        due("3 back(19)", x.back(19), 1981);
        due("2 feed over the edge", x.feed(1, 2, 3, 4, 5), -1);
        due("2 nothing came", x.count(6), 1981);
        due("3 back(1)", x.back(1), 1980);
        due("2 feed to the edge", x.feed(1, 2, 3, 4, 5), 2000);
        due("3 back(2000)", x.back(2000), 0);
        due("3 back(1) of none", x.back(1), -1);
        // "bed ", "abcd", " 3 9", ";   ", "    ": the highest byte of each comes first
        due("2 feed", x.feed(0x62656420, 0x61626364, 0x20332039, 0x3b202020, 0x20202020), 20);
        due("4 read", x.read(), 0);
        due("4 a bed is told", x.count(0), 1);
    }

    /** Promises 4 and 5, texts without a fault. */
    private static void goodTexts() {
        WakeHouse x = new WakeHouse();
        due("4 empty", x.read(), 0);
        due("5 place", x.place(), -1);
        due("4 blanks", tell(x, " \t\r\n "), 0);
        due("4 no blanks", tell(x, "bed a 0 0;clock k 1fast 3;sleeper x in a deep 1up 5late 9;hears(loud);again[1<2];"), 0);
        due("4 clocks", x.count(1), 1);
        due("4 names and ints need no blank between", tell(x, "bed a1 2;clock b5slow30;"), 0);
        due("4 names are alike only if all letters are", tell(x, "bed a 0 0;bed aa 0 0;bed b 0 0;bed bb 0 0;bed ab 0 0;bed ba 0 0;"
            + "clock z 1;clock zz 1;clock zzzzzzzz 1;clock zzzzzzzy 1;clock azzzzzzz 1;clock aaaaaaaa 1;clock aaaaaaa 1;clock az 1;clock ca 1;"), 0);
        due("4 tokens may be of the longest", tell(x, "bed abcdefgh 0003 0009;"), 0);
        due("4 twelve beds, nine clocks, twelve sleepers", tell(x, many()), 0);
        due("4 beds", x.count(0), 12);
        due("4 clocks", x.count(1), 9);
        due("4 sleepers", x.count(2), 12);
        due("4 six within one another", tell(x, "hears ([([([1<2])==1])<2]);"), 0);
        due("4 six again and again", tell(x, "hears ((((((1))))))*((((((1))))));"), 0);
        due("4 four hundred tokens", tell(x, FOUR_HUNDRED), 0);
    }

    private static String many() {
        StringBuilder s = new StringBuilder();
        for (int i = 0; i < 12; i++) s.append("bed b").append((char) ('a' + i)).append(" 0 ").append(i % 10).append(";");
        for (int i = 0; i < 9; i++) s.append("clock c").append((char) ('a' + i)).append(" 5;");
        for (int i = 0; i < 12; i++) s.append("sleeper s").append((char) ('a' + i)).append(" in b").append((char) ('a' + i)).append(" deep 1;");
        return s.toString();
    }

    /** Promises 4 and 5, fault 1. */
    private static void syntaxFaults() {
        fault("bed", 1, 3);
        fault("bed  ", 1, 5);
        fault("bed a 0 0", 1, 9);
        fault("bed a 0 0 ; x", 1, 12);
        fault(";", 1, 0);
        fault("bed bed 0 0;", 1, 4);
        fault("bed loud 0 0;", 1, 4);
        fault("bed a 0 ;", 1, 8);
        fault("bed a 0 0 0;", 1, 10);
        fault("bed abcdefghi 0 0;", 1, 4);
        fault("bed a 00000 0;", 1, 6);
        fault("bed a 0 0; Bed", 1, 11);
        fault("bed a 0 0;" + (char) 233, 1, 10);
        fault("bed a 0 0;" + (char) 0, 1, 10);
        fault("bed a 0 -1;", 1, 8);
        fault("clock k 3 fast;", 1, 14);
        fault("clock k 3 fast 3 slow 2;", 1, 17);
        fault("sleeper x in a deep 1 up 3;", 1, 26);
        fault("sleeper x in a deep 1 late 3;", 1, 22);
        fault("sleeper x in a deep 1 vain 3 up 4 late 1;", 1, 29);
        fault("sleeper x a deep 1;", 1, 10);
        fault("hears ;", 1, 6);
        fault("hears -1;", 1, 6);
        fault("hears 1 +;", 1, 9);
        fault("hears (1;", 1, 8);
        fault("hears 1);", 1, 7);
        fault("hears [1];", 1, 8);
        fault("hears [1<2<3];", 1, 10);
        fault("hears (1<2);", 1, 8);
        fault("hears [1=2];", 1, 8);
        fault("hears [1= =2];", 1, 8);
        fault("hears [1===2];", 1, 10);
        fault("hears [1==2);", 1, 11);
        fault("hears [1==", 1, 10);
        fault("hears [1=", 1, 8);
        cut("hears [1==2];", 9, 8);
        cut("hears [1==2];", 10, 10);
        cut("bed abc 0 0;", 5, 5);
        cut("bed abc 0 0;", 2, 0);
        cut("bed a 0 1234;", 9, 9);
        cut("bed abcdefghi 0 0;", 12, 12);
        fault("hears a;", 1, 6);
        fault("hears 1 2;", 1, 8);
        fault("again deep after;", 1, 11);
        // an unknown bed comes first by its place, but SYNTAX and ROOM go ahead of it
        fault("sleeper x in a deep 99; bed", 1, 27);
    }

    /** Promises 4 and 5, fault 2. */
    private static void roomFaults() {
        String full = many();
        fault(full + "bed x 0 0;", 2, full.length());
        fault(full + "clock x 1;", 2, full.length());
        fault(full + " sleeper x in y deep 0;", 2, full.length() + 1);
        fault(full + "bed", 2, full.length());
        fault(full + "bet", 1, full.length());
        fault("hears ((((((( 1)))))));", 2, 12);
        fault("hears ([([([[1<1]<1])<1])<1]);", 2, 12);
        fault("hears [1<[1<[1<[1<[1<[1<(1)]]]]]];", 2, 24);
        fault("hears ((((((1)))))) + ((((((", 1, 28);
        fault("hears 1" + times("+1", 199) + ";", 2, 405);
        fault("hears 1" + times("+1", 199) + "$", 1, 405);
        fault("hears 1" + times("+1", 199) + "1", 1, 406);
        fault("hears 1" + times("+1", 199) + " 1", 1, 406);
        fault(FOUR_HUNDRED + " bed", 2, 411);
        fault(FOUR_HUNDRED + " bad", 1, 411);
        fault(FOUR_HUNDRED + " bedbedbed", 1, 411);
        fault("hears 1" + times("+1", 198) + "+", 1, 404);
    }

    /** Promises 4 and 5, faults 3 to 5. */
    private static void senseFaults() {
        fault("bed a 0 0; bed a 0 1;", 3, 15);
        fault("bed a 0 0; clock a 1;", 3, 17);
        fault("clock a 1; bed a 0 0;", 3, 15);
        fault("bed a 0 0; sleeper a in a deep 1;", 3, 19);
        fault("bed a 0 0; sleeper x in a deep 1; sleeper y in a deep 1;", 3, 47);
        fault("bed a 0 0; bed b 0 0; sleeper x in a deep 1; sleeper x in b deep 1;", 3, 53);
        fault("sleeper x in a deep 1; bed a 0 0;", 4, 13);
        fault("clock a 1; sleeper x in a deep 1;", 4, 24);
        fault("sleeper x in x deep 1;", 4, 13);
        fault("bed a 4 0;", 5, 6);
        fault("bed a 3 10;", 5, 8);
        fault("bed a 4 10; bed a 0 0;", 5, 6);
        fault("clock k 0;", 5, 8);
        fault("clock k 13;", 5, 8);
        fault("clock k 12 fast 31;", 5, 16);
        fault("clock k 1 slow 0031;", 5, 15);
        fault("bed a 0 0; sleeper x in a deep 10;", 5, 31);
        fault("bed a 0 0; sleeper x in a deep 9 up 400 late 9;", 5, 36);
        fault("bed a 0 0; sleeper x in a deep 9 up 399 late 10;", 5, 45);
        fault("bed a 0 0; sleeper x in a deep 9 vain 10;", 5, 38);
        fault("bed a 9 0; bed a 0 1; sleeper x in y deep 0;", 5, 6);
        fault("bed a 0 0; bed a 9 1; sleeper x in y deep 0;", 3, 15);
        WakeHouse x = new WakeHouse();
        due("5 a fault", tell(x, ";"), 1);
        due("5 place", x.place(), 0);
        due("5 then none", tell(x, "hears 9999;"), 0);
        due("5 place", x.place(), -1);
    }

    /** A text with a fault changes nothing but the tape; one without takes the place of the one ahead. */
    private static void faultsChangeNothing() {
        WakeHouse x = house(PLAIN + "hears 5; again 2;");
        x.ring(0, 0, 50);
        x.wool(1, true);
        x.morning(0, 0, 3);
        x.hold(1);
        long cost = x.cost();
        due("4 a fault", tell(x, "bed a 0 0; bed b 9 0;"), 5);
        due("4 beds stay", x.count(0), 3);
        due("4 clocks stay", x.count(1), 2);
        due("4 sounds stay", x.count(3), 1);
        due("4 mornings stay", x.count(4), 1);
        due("4 wool stays", x.count(5), 1);
        due("4 slots stay", x.count(7), 1);
        due("4 laws stay", x.hears(0, 12, 0, 0), 5);
        due("4 laws stay", x.again(0, 12), 2);
        due("4 cost stays", x.cost(), cost);
        due("4 a good one", tell(x, "bed q 0 0; sleeper p in q deep 0;"), 0);
        due("4 beds", x.count(0), 1);
        due("4 clocks", x.count(1), 0);
        due("4 sleepers", x.count(2), 1);
        due("4 the plan is empty", x.count(3), 0);
        due("4 no mornings", x.count(4), 0);
        due("4 no wool", x.count(5), 0);
        due("4 slots hold nothing", x.count(7), 0);
        due("48 restore", x.restore(1), false);
        due("4 the usual law", x.hears(0, 3, 0, 0), 3);
        due("4 the usual law", x.again(0, 300), 0);
        due("4 the empty text", x.read(), 0);
        due("4 nothing is told", x.count(0), 0);
    }

    /** Promises 6 and 7. */
    private static void sleepersAndBeds() {
        WakeHouse x = house("bed a 0 0; bed b 3 9; bed c 1 1; sleeper p in c deep 9 up 399 late 7; sleeper q in a deep 0 vain 4;");
        int[] p = {2, 9, 399, 7, 0, 0};
        int[] q = {0, 0, -2, 0, 4, 0};
        for (int i = 0; i < 6; i++) {
            due("6 of(0, " + i + ")", x.of(0, i), p[i]);
            due("6 of(1, " + i + ")", x.of(1, i), q[i]);
        }
        due("6 of(2, 0)", x.of(2, 0), -1);
        due("6 of(-1, 0)", x.of(-1, 0), -1);
        due("6 of(0, 6)", x.of(0, 6), -1);
        due("6 of(0, -1)", x.of(0, -1), -1);
        due("7 lies(0)", x.lies(0), 1);
        due("7 lies(1)", x.lies(1), -2);
        due("7 lies(2)", x.lies(2), 0);
        due("7 lies(3)", x.lies(3), -1);
        due("7 lies(-1)", x.lies(-1), -1);
        x.wool(1, true);
        due("6 of(1, 5)", x.of(1, 5), 1);
        due("4 another text", tell(x, "bed a 0 0; bed b 0 1; sleeper p in a deep 1; sleeper q in b deep 1 up 1 late 1;"), 0);
        due("6 late, without an hour", x.of(0, 3), 0);
        due("6 no hour", x.of(0, 2), -2);
        due("6 vain, with an hour", x.of(1, 4), 0);
        due("6 vain not told", house("bed a 0 0; sleeper p in a deep 1;").of(0, 4), 0);
    }

    private static int heard(String law) {
        WakeHouse x = house("bed a 0 0; bed b 2 7; sleeper p in b deep 6; hears " + law + ";");
        return x.hears(0, 5, 0, 185);
    }

    /** Promises 8 and 9. */
    private static void laws() {
        WakeHouse x = house("bed a 0 1; bed b 2 4; sleeper p in a deep 3; sleeper q in b deep 5;");
        due("8 loud", x.hears(0, 9, 0, 0), 9);
        due("8 held to 10", x.hears(0, 12, 0, 0), 10);
        due("8 gap and floors", x.hears(0, 12, 1, 399), 12 - 3 - 6);
        due("8 gap and floors", x.hears(1, 12, 0, 0), 3);
        due("8 held to 0", x.hears(0, 8, 1, 0), 0);
        x.wool(0, true);
        due("8 wool", x.hears(0, 9, 0, 0), 5);
        due("8 no sleeper", x.hears(2, 9, 0, 0), -1);
        due("8 no loud", x.hears(0, 0, 0, 0), -1);
        due("8 no loud", x.hears(0, 13, 0, 0), -1);
        due("8 no bed", x.hears(0, 9, 2, 0), -1);
        due("8 no bed", x.hears(0, 9, -1, 0), -1);
        due("8 no minute", x.hears(0, 9, 0, -1), -1);
        due("8 no minute", x.hears(0, 9, 0, 400), -1);
        due("9 none told", x.again(0, 399), 0);
        due("9 no minutes", x.again(0, -1), -1);
        due("9 no sleeper", x.again(-1, 0), -1);
        due("8 loud", heard("loud"), 5);
        due("8 gap", heard("gap"), 7);
        due("8 floors", heard("floors"), 2);
        due("8 hour", heard("hour"), 3);
        due("8 deep", heard("deep"), 6);
        due("8 after", heard("after+1"), 1);
        due("8 left to right", heard("9-3-2"), 4);
        due("8 left to right", heard("8/2/2*3"), 6);
        due("8 parts first", heard("1+2*3"), 7);
        due("8 units first", heard("(1+2)*3"), 9);
        due("8 rounded towards 0", heard("(0-7)/2+5"), 2);
        due("8 less", heard("[1<2]*4+[2<2]*2+[3<2]"), 4);
        due("8 equal", heard("[2==2]*4+[1==2]*2"), 4);
        due("8 by 0", heard("5+3/0"), 0);
        due("8 by 0 anywhere", heard("5+(3/(2-2))*0"), 0);
        due("8 by 0 within a test", heard("5+[1/0<1]"), 0);
        due("8 by 0 below a line", heard("7/(1+1/0)"), 0);
        due("8 wraps", heard("9999*9999*9999*0+4"), 4);
        // 9999 * 9999 * 43 wraps to 4,299,140,043 - 4,294,967,296 = 4,172,747; by 500,000 (5000 * 100) that is 8
        due("8 wraps", heard("9999*9999*43/(5000*100)"), 8);
        // 65536 * 32768 is the least int: 1 less wraps to the greatest, less than it is no int
        due("8 wraps", heard("[256*256*128*256-1<0]+2"), 2);
        due("8 the least int by -1", heard("[256*256*128*256/(0-1)<0]*7"), 7);
        due("8 the last law counts", heard("1; hears 2; hears 3"), 3);
        WakeHouse y = house("bed a 0 0; sleeper p in a deep 4; again after / 10 + deep + loud + gap + floors + hour + wool;");
        due("9 again(0, 0)", y.again(0, 0), 4);
        due("9 again(0, 39)", y.again(0, 39), 7);
        due("9 again(0, 399)", y.again(0, 399), 10);
        y.wool(0, true);
        due("9 wool is no matter", y.again(0, 10), 5);
        due("9 again(0, 400)", y.again(0, 400), -1);
        due("9 held to 0", house("bed a 0 0; sleeper p in a deep 4; again 3 - after;").again(0, 5), 0);
        due("9 by 0", house("bed a 0 0; sleeper p in a deep 4; again 3 + 1 / after;").again(0, 0), 0);
    }

    /** Promises 10 to 14. */
    private static void planCalls() {
        WakeHouse x = house("bed a 0 0; bed b 1 5; clock k 4; clock f 6 fast 30; clock s 9 slow 30; sleeper p in b deep 0;");
        due("10 ring", x.ring(0, 1, 399), 0);
        due("10 fast", x.ring(1, 0, 29), 1);
        due("10 slow", x.ring(2, 0, 370), 2);
        due("11 string", x.string(0, 7), 3);
        due("12 pole", x.pole(1, 0), 4);
        int[][] rows = {{0, 399, 4, 1}, {0, 0, 6, 0}, {0, 399, 9, 0}, {1, 7, 0, 1}, {2, 0, 7, 1}};
        for (int i = 0; i < rows.length; i++) {
            for (int j = 0; j < 4; j++) due("14 sound(" + i + ", " + j + ")", x.sound(i, j), rows[i][j]);
        }
        due("14 sound(0, 4)", x.sound(0, 4), -1);
        due("14 sound(0, -1)", x.sound(0, -1), -1);
        due("14 sound(5, 0)", x.sound(5, 0), -1);
        due("14 sound(-1, 0)", x.sound(-1, 0), -1);
        due("10 no clock", x.ring(3, 0, 0), -1);
        due("10 no clock", x.ring(-1, 0, 0), -1);
        due("10 no bed", x.ring(0, 2, 0), -1);
        due("10 no minute", x.ring(0, 0, 400), -1);
        due("10 no minute", x.ring(0, 0, -1), -1);
        due("11 no sleeper", x.string(1, 0), -1);
        due("11 no minute", x.string(0, 400), -1);
        due("12 no bed", x.pole(2, 0), -1);
        due("12 no minute", x.pole(0, -1), -1);
        due("13 no sound", x.drop(5), -1);
        due("13 no sound", x.drop(-1), -1);
        due("13 nothing happened", x.count(3), 5);
        due("13 drop", x.drop(1), 4);
        due("13 those behind move up", x.sound(1, 2), 9);
        due("13 those behind move up", x.sound(3, 0), 2);
        for (int i = 4; i < 8; i++) due("12 pole", x.pole(0, i), i);
        due("10 no room", x.ring(0, 0, 0), -1);
        due("11 no room", x.string(0, 0), -1);
        due("12 no room", x.pole(0, 0), -1);
        due("10 still eight", x.count(3), 8);
        x.swap(0, 1);
        due("14 a string is where its sleeper is", x.sound(2, 3), 0);
        due("14 a ring stays", x.sound(0, 3), 1);
    }

    /** Promises 15 and 16. */
    private static void woolAndSwap() {
        WakeHouse x = house(PLAIN);
        due("15 wool", x.wool(0, true), true);
        due("15 wool again", x.wool(0, true), true);
        due("15 wool", x.count(5), 1);
        due("15 wool off", x.wool(0, false), true);
        due("15 wool off", x.wool(2, false), true);
        due("15 wool", x.count(5), 0);
        due("15 nobody", x.wool(3, true), false);
        due("15 nobody", x.wool(-1, true), false);
        due("16 swap", x.swap(2, 0), true);
        due("16 of", x.of(0, 0), 2);
        due("16 of", x.of(2, 0), 0);
        due("16 lies", x.lies(2), 0);
        due("16 one and the same", x.swap(1, 1), false);
        due("16 no bed", x.swap(1, 3), false);
        due("16 no bed", x.swap(-1, 0), false);
        WakeHouse y = house("bed a 0 0; bed b 0 1; bed c 0 2; sleeper p in a deep 1;");
        due("16 with an empty one", y.swap(0, 1), true);
        due("16 lies", y.lies(0), -2);
        due("16 lies", y.lies(1), 0);
        due("16 two empty ones", y.swap(0, 2), true);
        due("16 lies", y.lies(1), 0);
    }

    /** Promises 17 to 19. */
    private static void waysUpWoken() {
        WakeHouse x = house("bed a 0 0; bed b 0 3; clock k 5; sleeper p in a deep 2 up 100 late 1; sleeper q in b deep 2;"
            + "again [20 < after] * 4 + [after == 0];");
        due("17 ways", x.ways(), 1);
        due("18 nothing sounds", x.up(0), 0);
        due("19 nothing sounds", x.woken(0), 0);
        due("18 no hour", x.up(1), -2);
        due("18 nobody", x.up(2), -1);
        due("18 nobody", x.up(-1), -1);
        due("19 nobody", x.woken(2), -1);
        due("19 nobody", x.woken(-1), -1);
        x.ring(0, 0, 90);
        due("17 ways", x.ways(), 100);
        due("18 half the ways", x.up(0), 50);
        due("19 q hears 2", x.woken(1), 20);
        x.ring(0, 0, 101);
        due("17 ways", x.ways(), 10000);
        due("18 too late a sound is no matter", x.up(0), 5000);
        due("19 any sound", x.woken(0), 7500);
        due("19 q", x.woken(1), 10000 - 80 * 80);
        x.ring(0, 0, 65);
        // at 65: 5 of 10; asleep again by 4 of 10 before 90: 3 awake; 7 hear by half: 6.5 of 10; none again by 10
        due("18 asleep again", x.up(0), 650000);
        x.string(1, 70);
        // the string for q parts the 25 minutes into 5 and 20: nobody is asleep again
        due("18 a string for another", x.up(0), 75000000);
        due("19 a string", x.woken(1), 100000000);
        x.drop(3);
        x.drop(1);
        x.drop(1);
        x.ring(0, 0, 90);
        // both at 90: 5 of 10; by 0 minutes 1 of 10 again: 4.5; then half of 5.5 more: 7.25
        due("18 two at one minute", x.up(0), 7250);
        x.drop(0);
        x.drop(0);
        x.ring(0, 0, 100);
        due("18 at the hour itself", x.up(0), 45);
        x.drop(0);
        x.string(0, 60);
        due("18 a string, long ahead", x.up(0), 60);
        for (int i = 0; i < 7; i++) x.string(0, i);
        due("17 eight", x.ways(), 10000000000000000L);
        due("18 eight", x.up(0), 6000000000000000L);
        due("19 eight", x.woken(0), 10000000000000000L);
    }

    /** Promises 20 and 21. */
    private static void costAndWorst() {
        WakeHouse x = house(PLAIN);
        due("20 nobody is up", x.cost(), 3);
        due("21 nothing sounds", x.worst(), -2);
        x.ring(0, 0, 50);
        // x surely, y by 8, z by 7 in vain: 0 + 20 + 210
        due("20 cost", x.cost(), 230);
        due("21 the only one", x.worst(), 0);
        x.string(1, 90);
        due("20 cost", x.cost(), 21000);
        // without the ring: x is late, 200; without the string 230
        due("21 worst", x.worst(), 0);
        x.pole(2, 399);
        // z hears 7 of it in vain: without it 21000, without the ring 200 00 + 3 * 7000 = 41000, without the string 20 00 + 3 * 9100
        due("21 worst", x.worst(), 2);
        WakeHouse y = house("bed a 0 0; sleeper p in a deep 0 up 10 late 9;");
        y.string(0, 20);
        y.string(0, 30);
        due("21 of alike ones the first", y.worst(), 0);
        WakeHouse z = house("bed a 0 0; sleeper p in a deep 0 vain 9;");
        for (int i = 0; i < 8; i++) z.string(0, i);
        due("20 the most", z.cost(), 90000000000000000L);
    }

    /** Promises 22 to 24. */
    private static void hoursAndBest() {
        WakeHouse x = house("bed a 0 0; bed b 0 1; bed c 0 2; bed d 0 3; clock k 10; sleeper p in a deep 0 up 90 late 1; sleeper q in b deep 0;"
            + "sleeper r in c deep 0 up 5 late 1; sleeper s in d deep 0 up 90 late 1;");
        due("22 how many", x.hours(-1), 2);
        due("22 the least first", x.hours(0), 5);
        due("22 the second", x.hours(1), 90);
        due("22 not so many", x.hours(2), -1);
        due("22 not so many", x.hours(-2), -1);
        // at 5 minus 60, that is 0: all could hear it; beside c p hears 8, r 10, s 9
        due("23 best", x.best(0, -1, 60), 30);
        due("24 bed", x.bestAt(0, -1, 60, 0), 2);
        due("24 minute", x.bestAt(0, -1, 60, 1), 0);
        due("23 nothing changes", x.count(3), 0);
        WakeHouse y = house("bed a 0 0; bed b 0 9; clock k 10; clock l 10 slow 10; sleeper p in a deep 0 up 100 late 3;"
            + "sleeper q in b deep 0 up 200 late 3; again after / 60;");
        // k must wake p at 100 and l (which sounds at 110 or 210) can but wake q, asleep again by 1 of 10 from 110 to 200
        due("23 two", y.best(0, 1, 0), 3000);
        int[] at = {0, 100, 1, 100};
        for (int i = 0; i < 4; i++) due("24 bestAt " + i, y.bestAt(0, 1, 0, i), at[i]);
        // with a lead of 10 l sounds at the hours themselves; k at 190 or 90
        due("23 with a lead", y.best(0, 1, 10), 0);
        int[] lead = {0, 90, 1, 190};
        for (int i = 0; i < 4; i++) due("24 bestAt " + i, y.bestAt(0, 1, 10, i), lead[i]);
        due("23 the other one first", y.best(1, 0, 10), 0);
        due("24 first by the first clock's bed", y.bestAt(1, 0, 10, 0), 0);
        due("23 no clock", y.best(2, -1, 0), -1);
        due("23 no clock", y.best(-1, 0, 0), -1);
        due("23 no second clock", y.best(0, 2, 0), -1);
        due("23 no second clock", y.best(0, -2, 0), -1);
        due("23 alike", y.best(1, 1, 0), -1);
        due("23 no lead", y.best(0, 1, -1), -1);
        due("23 no lead", y.best(0, 1, 61), -1);
        due("24 what", y.bestAt(0, 1, 0, 4), -1);
        due("24 what", y.bestAt(0, 1, 0, -1), -1);
        due("24 no second one", y.bestAt(0, -1, 0, 2), -1);
        due("24 no second one", y.bestAt(0, -1, 0, 3), -1);
        y.string(0, 100);
        due("23 the plan is changed", y.best(0, -1, 0), 0);
        due("24 beside q", y.bestAt(0, -1, 0, 0), 1);
        due("24 at his hour", y.bestAt(0, -1, 0, 1), 200);
        y.drop(0);
        // k beside p: q hears 1 of ten, and is asleep again by 1 of ten from 100 to 200
        due("23 the plan is as it was", y.best(0, -1, 0), 273);
        for (int i = 0; i < 7; i++) y.pole(0, 300);
        due("23 room for one", y.best(0, -1, 0), 273L * 100000000000000L);
        due("23 no room for two", y.best(0, 1, 0), -2);
        due("24 no room for two", y.bestAt(0, 1, 0, 0), -2);
        due("24 what goes first", y.bestAt(0, 1, 0, 7), -1);
        y.pole(0, 300);
        due("23 no room", y.best(0, -1, 0), -2);
        due("23 no clock goes first", y.best(5, -1, 0), -1);
        due("24 no room goes ahead of no second one", y.bestAt(0, -1, 0, 2), -2);
        WakeHouse z = house("bed a 0 0; clock k 1; sleeper p in a deep 0;");
        due("23 no hours", z.best(0, -1, 0), -2);
    }

    /** Promises 25 and 26. */
    private static void fewestAndDeaf() {
        String text = "bed a 0 0; bed b 0 1; bed c 3 0; clock k 10; clock l 12 slow 5; clock m 9;"
            + "sleeper p in a deep 0 up 60 late 1; sleeper q in b deep 0 up 80 late 1; sleeper r in c deep 0;";
        WakeHouse x = house(text);
        due("25 one each", x.fewest(0), 2);
        due("26 deaf", x.deaf(0), 0);
        due("25 l at 65 is too late for p", x.fewest(1), -2);
        due("26 deaf", x.deaf(1), 1);
        due("25 m is not loud enough", x.fewest(2), -2);
        due("26 deaf", x.deaf(2), 3);
        due("25 no clock", x.fewest(3), -1);
        due("25 no clock", x.fewest(-1), -1);
        due("26 no clock", x.deaf(3), -1);
        x.wool(1, true);
        due("25 wool", x.fewest(0), -2);
        due("26 wool", x.deaf(0), 2);
        WakeHouse y = house(text.replace("k 10", "k 11"));
        due("25 one for both", y.fewest(0), 1);
        WakeHouse z = house(text.replace("k 10", "k 11") + "again [15 < after];");
        due("25 asleep again", z.fewest(0), 2);
        WakeHouse w = house(text.replace("k 10", "k 11 fast 10") + "again [5 < after];");
        due("26 asleep again", w.deaf(0), 3);
        due("25 nobody has an hour", house("clock k 1;").fewest(0), 0);
        due("26 nobody has an hour", house("clock k 1;").deaf(0), 0);
    }

    /** Promises 27 to 29. */
    private static void walkAndShakes() {
        WakeHouse x = house("bed a 0 0; bed b 2 5; bed c 0 1; bed d 0 2; sleeper p in a deep 0 up 10 late 1; sleeper q in b deep 0 up 22 late 1;"
            + "sleeper r in c deep 0; sleeper s in d deep 0 up 13 late 0;");
        due("27 walk", x.walk(0, 1), 12);
        due("27 walk", x.walk(1, 0), 12);
        due("27 walk", x.walk(0, 2), 2);
        due("27 no sleeper", x.walk(0, 4), -1);
        due("27 no sleeper", x.walk(-1, 0), -1);
        // p gets to s by 13 and to q by 22, s gets to q (1 + 3 + 6) by 23
        due("28 one each", x.shakes(1, 0), 1);
        due("28 the least walk", x.shakes(1, 1), 3);
        due("29 q", x.shaker(1, 1), -2);
        due("29 s", x.shaker(1, 3), 0);
        due("28 two", x.shakes(2, 0), 2);
        due("28 walks", x.shakes(2, 1), 15);
        due("29 q", x.shaker(2, 1), 0);
        due("29 s", x.shaker(2, 3), 0);
        due("29 p", x.shaker(2, 0), -2);
        due("29 no hour", x.shaker(2, 2), -2);
        due("28 no c", x.shakes(0, 0), -1);
        due("28 no c", x.shakes(3, 0), -1);
        due("28 no what", x.shakes(1, 2), -1);
        due("28 no what", x.shakes(1, -1), -1);
        due("29 no c", x.shaker(3, 0), -1);
        due("29 no sleeper", x.shaker(1, 4), -1);
        due("29 no sleeper", x.shaker(1, -1), -1);
        // two alike beside one another: the first of all shakes the first who can be
        WakeHouse y = house("bed a 0 0; bed b 0 0; bed c 0 0; bed d 0 0; sleeper p in a deep 0 up 50 late 0; sleeper q in b deep 0 up 50 late 0;"
            + "sleeper r in c deep 0 up 10 late 0; sleeper s in d deep 0 up 10 late 0;");
        due("28 both", y.shakes(1, 0), 2);
        due("29 p by the least", y.shaker(1, 0), 2);
        due("29 q by the next", y.shaker(1, 1), 3);
        due("29 q by the same", y.shaker(2, 1), 2);
        // nine with an hour: the ninth has no part in it
        StringBuilder s = new StringBuilder();
        for (int i = 0; i < 9; i++) s.append("bed b").append((char) ('a' + i)).append(" 0 0;");
        for (int i = 0; i < 9; i++) {
            s.append("sleeper s").append((char) ('a' + i)).append(" in b").append((char) ('a' + i)).append(" deep 0 up ").append(10 * i).append(" late 0;");
        }
        WakeHouse z = house(s.toString());
        due("28 seven", z.shakes(1, 0), 7);
        due("29 the ninth", z.shaker(1, 8), -2);
        due("29 the second", z.shaker(1, 1), 0);
        due("29 the eighth", z.shaker(1, 7), 6);
        due("29 the third, of two each", z.shaker(2, 2), 0);
        due("29 the fourth, of two each", z.shaker(2, 3), 1);
    }

    /** Promises 30 and 31. */
    private static void twice() {
        WakeHouse x = house("bed a 0 0; bed b 0 1; sleeper p in a deep 0 up 30 late 1; sleeper q in b deep 0; again [5 < after] * 10;");
        // of 9 the rings stay awake for 5 minutes: three within 5, but not more than 5 ahead of the hour
        due("30 one", x.twice(0, 9, 1, 30), 90);
        due("31 the first of alike ones", x.twiceAt(0, 9, 1, 30, 0), 25);
        due("30 two", x.twice(0, 9, 2, 30), 9900);
        due("31 first", x.twiceAt(0, 9, 2, 30, 0), 20);
        due("31 second", x.twiceAt(0, 9, 2, 30, 1), 25);
        due("30 three", x.twice(0, 9, 3, 2), 999000);
        for (int i = 0; i < 3; i++) due("31 all there are", x.twiceAt(0, 9, 3, 2, i), 28 + i);
        due("31 not so many", x.twiceAt(0, 9, 3, 2, 3), -1);
        due("31 not so many", x.twiceAt(0, 9, 3, 2, -1), -1);
        due("30 w too small", x.twice(0, 9, 3, 1), -1);
        due("31 w too small", x.twiceAt(0, 9, 3, 1, 0), -1);
        due("30 no hour", x.twice(1, 9, 1, 0), -1);
        due("30 nobody", x.twice(2, 9, 1, 0), -1);
        due("30 no loud", x.twice(0, 0, 1, 0), -1);
        due("30 no loud", x.twice(0, 13, 1, 0), -1);
        due("30 no k", x.twice(0, 9, 0, 0), -1);
        due("30 no k", x.twice(0, 9, 4, 9), -1);
        due("30 no w", x.twice(0, 9, 1, -1), -1);
        due("30 no w", x.twice(0, 9, 1, 31), -1);
        x.string(0, 30);
        due("30 these alone", x.twice(0, 3, 1, 0), 30);
        x.wool(0, true);
        due("30 with his wool", x.twice(0, 9, 1, 0), 50);
        WakeHouse u = house("bed a 0 0; sleeper p in a deep 0 up 30 late 1; again after * 2;");
        due("30 one at the hour", u.twice(0, 5, 1, 30), 50);
        due("31 one at the hour", u.twiceAt(0, 5, 1, 30, 0), 30);
        // at 29: 5; asleep again by 2: 4; at 30 half of the 6 that are left: 7
        due("30 two at the hour", u.twice(0, 5, 2, 30), 7000);
        due("31 two at the hour", u.twiceAt(0, 5, 2, 30, 0), 29);
        due("31 two at the hour", u.twiceAt(0, 5, 2, 30, 1), 30);
        due("30 three at the hour", u.twice(0, 5, 3, 30), 780000);
        for (int i = 0; i < 3; i++) due("31 three at the hour", u.twiceAt(0, 5, 3, 30, i), 28 + i);
        WakeHouse y = house("bed a 0 0; sleeper p in a deep 0 up 29 late 1; hears hour + 3;");
        due("30 HOUR - w below 0", y.twice(0, 9, 1, 30), -1);
        due("30 HOUR - w is 0", y.twice(0, 9, 1, 29), 30);
        WakeHouse z = house("bed a 0 0; sleeper p in a deep 0 up 70 late 1; hears hour * 9;");
        due("30 the hour of the minute", z.twice(0, 1, 1, 30), 90);
        due("31 the hour of the minute", z.twiceAt(0, 1, 1, 30, 0), 60);
    }

    /** Promises 32 and 33. */
    private static void swaps() {
        // p lies far from the sound that he should hear, q beside it; then r too
        WakeHouse x = house("bed a 0 0; bed b 0 9; bed c 0 8; bed d 0 1; clock k 10; sleeper p in b deep 0 up 50 late 5; sleeper q in a deep 0 vain 5;"
            + "sleeper r in c deep 0 up 50 late 5; sleeper s in d deep 0 vain 5;");
        x.ring(0, 0, 50);
        // p 1, q 10, r 2, s 9 of ten: 45 + 50 + 40 + 45 = 180 of ten times
        due("20 cost", x.cost(), 1800);
        due("32 none needed", x.swaps(18), 0);
        due("33 none", x.swapAt(18, 0), -1);
        // p and q changed: 0 + 5 + 40 + 45 = 90 of ten
        due("32 one", x.swaps(17), 1);
        due("33 the first by beds", x.swapAt(17, 0), 1);
        due("32 one", x.swaps(9), 1);
        due("33 p and q", x.swapAt(9, 0), 1);
        due("33 not so many", x.swapAt(9, 1), -1);
        due("33 not so many", x.swapAt(9, -1), -1);
        // then r and s: 5 + 10 + ... : p 10, q 1, r 9, s 2: 0 + 5 + 5 + 10 = 20
        due("32 two", x.swaps(2), 2);
        due("33 first", x.swapAt(2, 0), 1);
        due("33 second", x.swapAt(2, 1), 203);
        due("32 it can't be", x.swaps(1), -2);
        due("33 it can't be", x.swapAt(1, 0), -1);
        due("32 no limit", x.swaps(-1), -1);
        due("32 no limit", x.swaps(100), -1);
        due("33 no limit", x.swapAt(100, 0), -1);
        due("32 nothing changes", x.of(0, 0), 1);
        WakeHouse y = house("bed a 0 0; bed b 0 9; clock k 10; sleeper p in b deep 0 up 50 late 5;");
        y.ring(0, 0, 50);
        due("32 into an empty bed", y.swaps(0), 1);
        due("33 into an empty bed", y.swapAt(0, 0), 1);
        due("32 at the edge", y.swaps(99), 0);
    }

    /** Promises 34 and 35. */
    private static void worth() {
        WakeHouse x = house("bed a 0 0; bed b 0 1; bed c 0 2; bed d 0 3; clock k 9; sleeper p in a deep 0 up 9 late 1; sleeper q in b deep 0 vain 2;"
            + "sleeper r in c deep 0 vain 3; sleeper s in d deep 0 vain 2;");
        x.ring(0, 0, 5);
        due("34 who should be up", x.worth(0), -40);
        due("34 q", x.worth(1), 80);
        due("34 r", x.worth(2), 120);
        due("34 s", x.worth(3), 80);
        x.wool(2, true);
        due("34 with it already", x.worth(2), 120);
        due("34 nobody", x.worth(4), -1000000000000000000L);
        due("34 nobody", x.worth(-1), -1000000000000000000L);
        due("35 none", x.whose(0), 0);
        due("35 one", x.whose(1), 4);
        due("35 two: the least number", x.whose(2), 6);
        due("35 three", x.whose(3), 14);
        due("35 no more than that", x.whose(12), 14);
        due("35 no w", x.whose(13), -1);
        due("35 no w", x.whose(-1), -1);
        due("35 nothing changes", x.count(5), 1);
    }

    /** Promises 36 and 37. */
    private static void round() {
        WakeHouse x = house("bed a 0 3; bed b 3 5; bed c 0 9; sleeper p in a deep 0 up 5 late 0; sleeper q in b deep 0 up 7 late 0; sleeper r in c deep 0;");
        due("36 at the hours", x.round(0), 7);
        due("37 first", x.roundAt(0, 0), 0);
        due("37 second", x.roundAt(0, 1), 1);
        due("37 not so many", x.roundAt(0, 2), -1);
        due("37 not so many", x.roundAt(0, -1), -1);
        due("36 early", x.round(60), 5);
        due("37 first", x.roundAt(60, 0), 0);
        due("36 no e", x.round(61), -1);
        due("36 no e", x.round(-1), -1);
        due("37 no e", x.roundAt(61, 0), -1);
        WakeHouse y = house("bed a 0 4; bed b 0 9; sleeper p in a deep 0 up 20 late 0; sleeper q in b deep 0 up 20 late 0;");
        due("36 not both at once", y.round(4), -2);
        due("37 it can't be", y.roundAt(4, 0), -1);
        due("36 five apart", y.round(5), 20);
        due("37 of alike ones the first", y.roundAt(5, 0), 0);
        due("36 as soon as can be", y.round(20), 9);
        WakeHouse z = house("bed a 0 9; bed b 0 4; sleeper p in a deep 0 up 20 late 0; sleeper q in b deep 0 up 20 late 0;");
        due("36 on the way", z.round(20), 9);
        due("37 q first", z.roundAt(20, 0), 1);
        due("37 p last", z.roundAt(20, 1), 0);
        due("36 too far for the hour", house("bed a 0 9; sleeper p in a deep 0 up 8 late 0;").round(60), -2);
        due("36 nobody", house("bed a 0 9; sleeper p in a deep 0;").round(3), 0);
        due("37 nobody", house("bed a 0 9; sleeper p in a deep 0;").roundAt(3, 0), -1);
        WakeHouse w = house("bed a 0 0; bed b 0 0; bed c 0 0; sleeper p in a deep 0 up 30 late 0; sleeper q in b deep 0 up 10 late 0; sleeper r in c deep 0 up 20 late 0;");
        int[] order = {1, 2, 0};
        for (int i = 0; i < 3; i++) due("37 by their hours", w.roundAt(0, i), order[i]);
        due("36 wide", w.round(25), 5);
        for (int i = 0; i < 3; i++) due("37 all done by 5", w.roundAt(25, i), new int[] {0, 1, 2}[i]);
        due("36 narrow", w.round(15), 15);
        for (int i = 0; i < 3; i++) due("37 p can't be ahead of 15", w.roundAt(15, i), new int[] {1, 0, 2}[i]);
    }

    /** Promises 38 to 40. */
    private static void mornings() {
        WakeHouse x = house(PLAIN);
        due("38 morning", x.morning(0, 0, 60), 0);
        due("38 morning", x.morning(0, 6, 61), 1);
        due("38 not at all", x.morning(2, 3, 400), 2);
        due("38 morning", x.morning(2, 3, 399), 3);
        due("39 annul", x.annul(0), 4);
        due("39 annul once more", x.annul(0), 5);
        due("39 a void", x.annul(4), -1);
        due("39 no morning", x.annul(6), -1);
        due("39 no morning", x.annul(-1), -1);
        due("38 nobody", x.morning(3, 0, 0), -1);
        due("38 no weekday", x.morning(0, 7, 0), -1);
        due("38 no weekday", x.morning(0, -1, 0), -1);
        due("38 no minute", x.morning(0, 0, 401), -1);
        due("38 no minute", x.morning(0, 0, -1), -1);
        due("49 six in the row", x.count(4), 6);
        due("40 all of x, ahead of the void", x.alone(0, 7, 4, 0), 2);
        due("40 in time", x.alone(0, 7, 4, 1), 1);
        due("40 Monday", x.alone(0, 0, 4, 0), 1);
        due("40 Sunday", x.alone(0, 6, 4, 1), 0);
        due("40 behind the void", x.alone(0, 7, 5, 0), 1);
        due("40 behind the void", x.alone(0, 7, 6, 1), 0);
        due("40 none known", x.alone(0, 7, 0, 0), 0);
        due("40 the first", x.alone(0, 7, 1, 0), 1);
        due("40 z", x.alone(2, 3, 6, 0), 2);
        due("40 z woke at all", x.alone(2, 7, 6, 1), 1);
        due("40 nobody", x.alone(3, 7, 6, 0), -1);
        due("40 no weekday", x.alone(0, 8, 6, 0), -1);
        due("40 no n", x.alone(0, 7, 7, 0), -1);
        due("40 no n", x.alone(0, 7, -1, 0), -1);
        due("40 no what", x.alone(0, 7, 6, 2), -1);
        for (int i = 6; i < 60; i++) due("38 morning", x.morning(1, 1, 0), i);
        due("38 sixty are there", x.morning(1, 1, 0), -1);
        due("39 sixty are there", x.annul(2), -1);
        due("49 sixty", x.count(4), 60);
        due("40 y", x.alone(1, 1, 60, 1), 54);
    }

    /** Promises 41 and 42. */
    private static void mondays() {
        WakeHouse x = house(PLAIN);
        int[][] rows = {{0, 0, 70}, {0, 0, 50}, {1, 2, 91}, {1, 0, 90}, {2, 0, 400}, {2, 1, 3}, {0, 4, 400}};
        for (int[] r : rows) x.morning(r[0], r[1], r[2]);
        // 7 of all, 4 Mondays, 4 late (0, 2, 4, 6), both: 0 and 4
        int[] all = {7, 4, 4, 2};
        for (int i = 0; i < 4; i++) due("41 mondays(7, " + i + ")", x.mondays(7, i), all[i]);
        due("42 all", x.mondayWays(7, false), 35);
        // 2 or more of the 4: 6 * 3 + 4 * 3 + 1
        due("42 so many", x.mondayWays(7, true), 31);
        x.annul(1);
        int[] less = {6, 3, 4, 2};
        for (int i = 0; i < 4; i++) due("41 mondays(8, " + i + ")", x.mondays(8, i), less[i]);
        due("42 all", x.mondayWays(8, false), 20);
        due("42 so many", x.mondayWays(8, true), 16);
        due("41 ahead of the void", x.mondays(7, 0), 7);
        due("41 none", x.mondays(0, 0), 0);
        due("42 none", x.mondayWays(0, false), 1);
        due("42 none", x.mondayWays(0, true), 1);
        due("41 no n", x.mondays(9, 0), -1);
        due("41 no n", x.mondays(-1, 0), -1);
        due("41 no what", x.mondays(7, 4), -1);
        due("41 no what", x.mondays(7, -1), -1);
        due("42 no n", x.mondayWays(9, false), -1);
        due("42 no n", x.mondayWays(-1, true), -1);
        WakeHouse y = house(PLAIN);
        for (int i = 0; i < 60; i++) y.morning(0, i % 2, i < 30 ? 60 : 61);
        due("42 the most", y.mondayWays(60, false), 118264581564861424L);
        // half of the late ones are Mondays: by evenness half of all, and half of those by which it's just 15
        due("42 the most", y.mondayWays(60, true), (118264581564861424L + 155117520L * 155117520L) / 2);
    }

    /** Promises 43 and 44. */
    private static void fire() {
        WakeHouse x = house("bed a 0 0; bed b 0 2; bed c 0 4; bed d 3 4; sleeper p in a deep 0; sleeper q in b deep 0; sleeper r in c deep 0;");
        due("43 one by one", x.fire(0, 12, false), 2);
        due("43 from the middle", x.fire(1, 12, false), 1);
        due("43 not surely", x.fire(0, 11, false), -2);
        due("44 not surely", x.reaches(0, 11, false), 1);
        due("43 maybe", x.fire(0, 5, true), 1);
        due("43 maybe", x.fire(0, 3, true), 2);
        due("43 not even maybe", x.fire(0, 2, true), -2);
        due("44 all", x.reaches(0, 12, false), 7);
        due("44 maybe", x.reaches(2, 3, true), 7);
        x.wool(1, true);
        due("43 with his wool", x.fire(0, 12, false), -2);
        due("44 with his wool", x.reaches(0, 12, false), 1);
        due("44 the one with wool cries", x.reaches(1, 12, false), 7);
        due("43 nobody", x.fire(3, 12, false), -1);
        due("43 nobody", x.fire(-1, 12, false), -1);
        due("43 no loud", x.fire(0, 13, true), -1);
        due("44 nobody", x.reaches(3, 12, false), -1);
        due("44 no loud", x.reaches(0, 0, true), -1);
        due("43 alone", house("bed a 0 0; sleeper p in a deep 0;").fire(0, 1, false), 0);
    }

    /** LOT 10, as the document tells it. */
    private static int lot(int seed, int which) {
        int h = (seed ^ 14) * 1103515245 + 12345;
        h ^= h >>> 15;
        h = (h ^ which) * 1103515245 + 12345;
        h ^= h >>> 15;
        return (h >>> 1) % 10;
    }

    /** Promises 45 and 46. */
    private static void lots() {
        WakeHouse x = house("bed a 0 0; bed b 0 1; clock k 6; sleeper p in a deep 0 up 50 late 1; sleeper q in b deep 0; again 3;");
        due("45 nothing sounds", x.day(7, 3), 0);
        due("46 nothing sounds", x.days(7, 50, 0), 0);
        x.ring(0, 0, 40);
        x.ring(0, 0, 51);
        int count = 0;
        for (int d = 0; d < 50; d++) {
            boolean up = lot(-9, 1000 * d) < 6 && lot(-9, 1000 * d + 3) >= 3;
            count += up ? 1 : 0;
            due("45 one sound matters", x.day(-9, d), up ? 1 : 0);
        }
        due("46 fifty", x.days(-9, 50, 0), count);
        due("46 all with an hour", x.days(-9, 50, -1), count);
        x.drop(1);
        x.ring(0, 0, 30);
        count = 0;
        for (int d = 0; d < 50; d++) {
            boolean up = lot(77, 1000 * d) < 6;
            up = up && lot(77, 1000 * d + 3) >= 3;
            up = up || lot(77, 1000 * d + 2) < 6;
            up = up && lot(77, 1000 * d + 5) >= 3;
            count += up ? 1 : 0;
            due("45 two sounds", x.day(77, d), up ? 1 : 0);
        }
        due("46 fifty", x.days(77, 50, 0), count);
        due("45 no d", x.day(1, -1), -1);
        due("45 no d", x.day(1, 1000), -1);
        due("46 no k", x.days(1, 0, 0), -2);
        due("46 no k", x.days(1, 51, 0), -2);
        due("46 no hour", x.days(1, 5, 1), -2);
        due("46 nobody", x.days(1, 5, 2), -2);
        due("46 nobody", x.days(1, 5, -2), -2);
        WakeHouse y = house("bed a 0 0; bed b 0 1; sleeper z in b deep 0; sleeper p in a deep 0 up 50 late 1;");
        y.string(1, 50);
        due("45 by their numbers", y.day(3, 999), 2);
        due("46 every day", y.days(3, 50, 1), 50);
        due("46 nobody has an hour", house("bed a 0 0; sleeper p in a deep 0;").days(3, 4, -1), 4);
    }

    /** Promises 47 and 48. */
    private static void slots() {
        WakeHouse x = house(PLAIN);
        due("48 nothing is held", x.restore(0), false);
        x.ring(0, 0, 50);
        x.wool(1, true);
        x.swap(0, 2);
        x.morning(0, 0, 5);
        due("47 hold", x.hold(0), true);
        due("47 no slot", x.hold(2), false);
        due("47 no slot", x.hold(-1), false);
        x.pole(1, 9);
        x.drop(0);
        x.wool(1, false);
        x.wool(2, true);
        x.swap(1, 2);
        x.morning(1, 1, 6);
        x.annul(0);
        due("47 the other one", x.hold(1), true);
        due("48 no slot", x.restore(2), false);
        due("48 no slot", x.restore(-1), false);
        for (int turn = 0; turn < 2; turn++) {
            due("48 restore", x.restore(0), true);
            due("48 plan", x.count(3), 1);
            due("48 plan", x.sound(0, 2), 10);
            due("48 wool", x.of(1, 5), 1);
            due("48 wool", x.of(2, 5), 0);
            due("48 beds", x.lies(2), 0);
            due("48 beds", x.of(0, 0), 2);
            due("48 beds", x.of(1, 0), 1);
            due("48 mornings", x.count(4), 1);
            due("48 mornings", x.alone(0, 7, 1, 0), 1);
            x.string(0, 1);
            x.morning(2, 2, 2);
        }
        due("48 restore the other one", x.restore(1), true);
        due("48 plan", x.sound(0, 0), 2);
        due("48 beds", x.lies(1), 0);
        due("48 mornings", x.count(4), 3);
        due("48 mornings", x.alone(0, 7, 3, 0), 0);
        due("49 slots", x.count(7), 2);
        WakeHouse y = new WakeHouse();
        due("47 of a new object", y.hold(1), true);
        due("48 of a new object", y.restore(1), true);
    }

    /** Promise 49. */
    private static void counts() {
        WakeHouse x = house(PLAIN);
        x.ring(0, 0, 1);
        x.string(0, 1);
        x.morning(0, 0, 1);
        x.annul(0);
        x.wool(0, true);
        x.wool(2, true);
        x.feed(0, 0, 0, 0, 0);
        x.hold(1);
        int[] all = {3, 2, 3, 2, 2, 2, 20, 1};
        for (int i = 0; i < 8; i++) due("49 count(" + i + ")", x.count(i), all[i]);
        due("49 count(8)", x.count(8), -1);
        due("49 count(-1)", x.count(-1), -1);
        due("NONE", WakeHouse.NONE, -1);
    }
}
