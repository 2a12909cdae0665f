/** Part I of the Terms and promises 1 to 5: the tape, the texts, their FAULTS. */
final class TextSentences extends Sentences {
    private static final String[] TOKENS = {"q", "7", "bed", "clock", "fast", "slow", "sleeper", "in", "deep", "up", "late", "vain",
        "hears", "again", "loud", "gap", "floors", "hour", "wool", "after", ";", "+", "-", "*", "/", "<", "==", "(", ")", "[", "]"};
    private static final String[] NO_TOKENS = {"=", "abcdefghi", "12345", "$", "Q", ">", "{", "\u00e9", "\0", "_"};
    private static final String[] WORDS = {"bed", "clock", "fast", "slow", "sleeper", "in", "deep", "up", "late", "vain", "hears",
        "again", "loud", "gap", "floors", "hour", "wool", "after"};
    private static final String UNITS = "7 loud gap floors hour deep wool after ( [";
    private static final String FOUR_HUNDRED = "hears 1;again 1" + "+1".repeat(197) + ";";
    private static final String FULL = beds(12) + clocks(9) + sleepers(12, "");

    static void all() {
        newObject();
        feeding();
        takingBack();
        reading();
        placing();
        signs();
        grammar();
        ranges();
        laws();
        firstFault();
        syntax();
        room();
        twice();
        names();
        wrong();
        changes();
    }

    private static void newObject() {
        sentence(1, "Nothing is told.");
        WakeHouse x = new WakeHouse();
        for (int what = 0; what <= 7; what++) due(x.count(what), 0);
        due(x.place(), -1);
        due(x.of(0, 0), -1);
        due(x.lies(0), -1);
        due(x.hears(0, 5, 0, 0), -1);
        due(x.again(0, 0), -1);
        due(x.ring(0, 0, 0), -1);
        due(x.string(0, 0), -1);
        due(x.pole(0, 0), -1);
        due(x.drop(0), -1);
        due(x.sound(0, 0), -1);
        due(x.wool(0, true), false);
        due(x.swap(0, 1), false);
        due(x.ways(), 1);
        due(x.up(0), -1);
        due(x.woken(0), -1);
        due(x.cost(), 0);
        due(x.worst(), -2);
        due(x.hours(-1), 0);
        due(x.hours(0), -1);
        due(x.best(0, -1, 0), -1);
        due(x.bestAt(0, -1, 0, 0), -1);
        due(x.fewest(0), -1);
        due(x.deaf(0), -1);
        due(x.walk(0, 0), -1);
        due(x.shakes(1, 0), 0);
        due(x.shakes(2, 1), 0);
        due(x.shaker(1, 0), -1);
        due(x.twice(0, 5, 1, 0), -1);
        due(x.twiceAt(0, 5, 1, 0, 0), -1);
        due(x.swaps(0), 0);
        due(x.swapAt(0, 0), -1);
        due(x.worth(0), -1000000000000000000L);
        due(x.whose(12), 0);
        due(x.round(0), 0);
        due(x.roundAt(0, 0), -1);
        due(x.morning(0, 0, 0), -1);
        due(x.annul(0), -1);
        due(x.alone(0, 7, 0, 0), -1);
        due(x.mondays(0, 0), 0);
        due(x.mondayWays(0, true), 1);
        due(x.mondayWays(0, false), 1);
        due(x.fire(0, 1, true), -1);
        due(x.reaches(0, 1, true), -1);
        due(x.day(1, 0), 0);
        due(x.days(1, 7, -1), 7);
        due(x.restore(0), false);
        due(x.restore(1), false);

        sentence(1, "public static final int NONE = -1;");
        due(WakeHouse.NONE, -1);

        sentence(1, "public WakeHouse();");
        WakeHouse y = new WakeHouse();
        feed(y, "bed a 0 0;");
        due(new WakeHouse().count(6), 0);
        due(y.count(6), 10);

        sentence(1, "An object is used for at most 512 calls after it has been made; what later calls answer is free.");
        WakeHouse z = new WakeHouse();
        tell(z, "bed a 0 0; sleeper p in a deep 0 vain 1;");
        for (int call = 4; call < 512; call++) due(z.wool(0, call % 2 == 0), true);
        due(z.of(0, 5), 0);
    }

    private static void feeding() {
        sentence(2, "Twenty bytes, the highest of a first, come behind the tape: how many it has.");
        for (int i = 0; i < 40; i++) {
            WakeHouse x = new WakeHouse();
            int[] ints = new int[10];
            for (int j = 0; j < 40; j++) ints[j / 4] = ints[j / 4] << 8 | (i == j ? '$' : ' ');
            due(x.feed(ints[0], ints[1], ints[2], ints[3], ints[4]), 20);
            due(x.feed(ints[5], ints[6], ints[7], ints[8], ints[9]), 40);
            due(x.read(), 1);
            due(x.place(), i);
        }

        sentence(2, "A TEXT has 2,000 bytes at most.");
        WakeHouse x = new WakeHouse();
        for (int i = 1; i <= 100; i++) due(x.feed(0x20202020, 0x20202020, 0x20202020, 0x20202020, 0x2020203b), 20 * i);
        due(x.count(6), 2000);
        x.back(1);
        x.back(1980);
        for (int i = 0; i < 99; i++) x.feed(0x20202020, 0x20202020, 0x20202020, 0x20202020, 0x20202020);
        due(x.count(6), 1999);
        due(x.read(), 0);
        good(" ".repeat(1981) + "bed a 0 0; hears 1;");

        sentence(2, "NONE, and nothing comes, if it would have more than 2,000.");
        WakeHouse y = new WakeHouse();
        for (int i = 0; i < 100; i++) y.feed(0x20202020, 0x20202020, 0x20202020, 0x20202020, 0x20202020);
        due(y.feed(0x3b3b3b3b, 1, 2, 3, 4), -1);
        due(y.count(6), 2000);
        due(y.back(19), 1981);
        due(y.feed(0x3b3b3b3b, 1, 2, 3, 4), -1);
        due(y.count(6), 1981);
        due(y.back(1), 1980);
        due(y.feed(0x20202020, 0x20202020, 0x20202020, 0x20202020, 0x20202020), 2000);
        due(y.feed(0, 0, 0, 0, 0), -1);
        due(y.read(), 0);
    }

    private static void takingBack() {
        sentence(3, "The last n bytes of the tape go: how many it has.");
        WakeHouse x = new WakeHouse();
        feed(x, "bed a 0 0;clock k 1;; ");
        due(x.count(6), 22);
        due(x.back(0), 22);
        due(x.back(2), 20);
        due(x.read(), 0);
        due(x.count(1), 1);
        feed(x, "bed a 0 0;;;;;;;;;;;");
        due(x.back(1), 19);
        due(x.back(9), 10);
        feed(x, "bed b 0 0;");
        due(x.read(), 0);
        due(x.count(0), 2);
        feed(x, ";;;;;");
        due(x.back(5), 0);
        due(x.read(), 0);

        // what went is no matter, though a TOKEN would be another one with it
        String[] texts = {"hears [1==", "hears [1=", "bed abcdefgh", "bed a 0 1234", "bed a 0 0;", "bed a 0 0; bed"};
        int[] places = {10, 8, 12, 12, -1, 14};
        String[] gone = {"=1];", "=1];", "i 0 0;", "5;", "; $", "b 0 0;"};
        for (int i = 0; i < texts.length; i++) {
            WakeHouse y = new WakeHouse();
            feed(y, texts[i] + gone[i]);
            due(y.back(gone[i].length()), texts[i].length());
            due(y.read(), places[i] < 0 ? 0 : 1);
            due(y.place(), places[i]);
        }

        sentence(3, "NONE, and nothing goes, if it has not so many, or n is below 0.");
        WakeHouse y = new WakeHouse();
        due(y.back(0), 0);
        due(y.back(1), -1);
        due(y.back(-1), -1);
        feed(y, "bed a 0 0;");
        due(y.back(11), -1);
        due(y.back(Integer.MAX_VALUE), -1);
        due(y.back(-1), -1);
        due(y.back(-10), -1);
        due(y.back(Integer.MIN_VALUE), -1);
        due(y.count(6), 10);
        due(y.back(10), 0);
        due(y.count(6), 0);
    }

    private static void reading() {
        sentence(4, "The tape, which is empty then, is read: 0, or the number of its FAULT.");
        WakeHouse x = new WakeHouse();
        due(x.read(), 0);
        due(tell(x, "bed a 0 0;"), 0);
        due(x.count(6), 0);
        due(x.count(0), 1);
        due(tell(x, "bed a 0 0"), 1);
        due(x.count(6), 0);
        due(tell(x, "hears (((((((1)))))));"), 2);
        due(x.count(6), 0);
        due(tell(x, "bed a 0 0; bed a 0 0;"), 3);
        due(x.count(6), 0);
        due(tell(x, "sleeper a in b deep 0;"), 4);
        due(x.count(6), 0);
        due(tell(x, "bed a 4 0;"), 5);
        due(x.count(6), 0);
        due(x.read(), 0);
        due(x.count(0), 0);
    }

    private static void placing() {
        sentence(5, "The byte of the latest read()'s FAULT;");
        WakeHouse x = new WakeHouse();
        tell(x, "bed a 0 0 0;");
        due(x.place(), 10);
        due(x.place(), 10);
        feed(x, "bed a 7 0;");
        due(x.place(), 10);
        x.read();
        due(x.place(), 6);
        tell(x, ";");
        due(x.place(), 0);
        tell(x, " ".repeat(1999) + "+");
        due(x.place(), 1999);
        tell(x, " ".repeat(1997) + "bed");
        due(x.place(), 2000);

        sentence(5, "NONE without.");
        due(new WakeHouse().place(), -1);
        due(x.read(), 0);
        due(x.place(), -1);
    }

    private static void signs() {
        sentence(4, "TOKENS, the longest that can be,");
        good("hears [1==1];");
        fault("hears [1= =1];", 1, 8);
        fault("hears [1===1];", 1, 10);
        fault("hears [1====1];", 1, 10);
        fault("hears [1=<1];", 1, 8);
        good("bed bedq 1 1;");
        fault("beda 1 1;", 1, 0);
        fault("bedbed a 1 1;", 1, 0);
        fault("bed a 0 12;", 5, 8);
        fault("bed a 0 1 2;", 1, 10);
        fault("bed ab 0 0; sleeper s in a deep 0;", 4, 25);
        good("bed a1 2;clock b5slow30;hears(1)*2;again[1<2]-3;");

        sentence(4, "with blanks (9, 10, 13, 32) between or not:");
        for (int c = 0; c < 256; c++) {
            String text = "hears 1" + (char) c + "1;";
            if (c == 9 || c == 10 || c == 13 || c == 32) fault(text, 1, 8);
            else if (c >= '0' && c <= '9' || c == '+' || c == '-' || c == '*' || c == '/') good(text);
            else if (c == ';') fault(text, 1, 8);
            else fault(text, 1, 7);
        }
        good("\t\n\r bed\t\n\r a\t1\n1\r;\t\n\r ");
        good("\t");
        good("\n");
        good("\r");
        good(" ");
        fault("\u000b", 1, 0);
        fault("\f", 1, 0);

        sentence(4, "NAMES (letters a .. z, 8 at most, none of the words in quotes),");
        for (int c = 0; c < 256; c++) {
            boolean blank = c == 9 || c == 10 || c == 13 || c == 32;
            if (c >= 'a' && c <= 'z') good("bed " + (char) c + " 1 1;");
            else fault("bed " + (char) c + " 1 1;", 1, blank ? 6 : 4);
        }
        good("bed abcdefgh 0 0;");
        good("bed zzzzzzzz 0 0; sleeper yyyyyyyy in zzzzzzzz deep 0;");
        fault("bed abcdefghi 0 0;", 1, 4);
        fault("bed a 0 0; sleeper b in " + "c".repeat(30) + " deep 0;", 1, 24);
        for (String word : WORDS) {
            fault("bed " + word + " 0 0;", 1, 4);
            good("bed " + word + "x 0 0; clock x" + word + " 1;");
            good("bed " + word.substring(1) + " 0 0;");
        }
        good("bed aaaaaaaa 0 0; bed aaaaaaab 0 0; bed baaaaaaa 0 0; bed aaaaaaa 0 0; bed aa 0 0; bed a 0 0; bed b 0 0; bed ba 0 0;");

        sentence(4, "INTS (1 to 4 digits),");
        good("hears 0; hears 10; hears 999; hears 9999; hears 0000; hears 0007;");
        fault("hears 10000;", 1, 6);
        fault("hears 00001;", 1, 6);
        fault("hears " + "1".repeat(40) + ";", 1, 6);
        good("bed a 0003 0009;");
        for (int digit = 0; digit <= 9; digit++) due(house("bed a 0 " + digit + "; bed b 0 0; sleeper p in a deep 0; hears gap;").hears(0, 1, 1, 0), digit);

        sentence(4, "SIGNS ; + - * / < == ( ) [ ] .");
        for (String sign : new String[] {";", "+", "-", "*", "/", "<", "==", "(", ")", "[", "]"}) fault(sign, 1, 0);
        good("hears (1+2-3*4/5)+[1<2]+[1==2];");

        sentence(4, "A longer one, all else, is no TOKEN.");
        for (String none : NO_TOKENS) {
            fault(none, 1, 0);
            fault("bed " + none + " 0 0;", 1, 4);
            fault("bed a 0 0;" + none, 1, 10);
            fault("hears 1 " + none + ";", 1, 8);
        }
        fault("bed a 0 0;\u0080", 1, 10);
        fault("bed a 0 0;\u00ff", 1, 10);
        fault("bed a 0 0;\u00a0", 1, 10);
    }

    /** Behind these words just these TOKENS go on; all others, what is none, and the end are at fault at their place. */
    private static void goesOn(String ahead, String tokens, boolean done) {
        String with = " " + tokens + " ";
        if (done) good(ahead);
        else fault(ahead, 1, ahead.length());
        for (String token : TOKENS) {
            String text = ahead + " " + token;
            WakeHouse x = new WakeHouse();
            int fault = tell(x, text);
            if (with.contains(" " + token + " ")) {
                due(fault == 0 ? text.length() : x.place(), text.length());
                due(fault == 0, token.equals(";"));
            } else {
                due(fault, 1);
                due(x.place(), ahead.length() + 1);
                // what stands behind it is no matter
                fault(text + "; 1 1; $", 1, ahead.length() + 1);
            }
        }
        for (String none : NO_TOKENS) fault(ahead + " " + none, 1, ahead.length() + 1);
    }

    private static void grammar() {
        sentence(4, "text: {TELL}.");
        String tells = "bed clock sleeper hears again";
        goesOn("", tells, true);
        goesOn("bed a 1 1;", tells, true);
        goesOn("hears 1; again 1; hears 1;", tells, true);

        sentence(4, "TELL: 'bed' NAME INT INT ';' |");
        goesOn("bed", "q", false);
        goesOn("bed a", "7", false);
        goesOn("bed a 1", "7", false);
        goesOn("bed a 1 1", ";", false);

        sentence(4, "'clock' NAME INT [('fast' | 'slow') INT] ';' |");
        goesOn("clock", "q", false);
        goesOn("clock a", "7", false);
        goesOn("clock a 1", "fast slow ;", false);
        goesOn("clock a 1 fast", "7", false);
        goesOn("clock a 1 slow", "7", false);
        goesOn("clock a 1 fast 1", ";", false);
        goesOn("clock a 1 slow 1", ";", false);
        goesOn("clock a 1;", tells, true);

        sentence(4, "'sleeper' NAME 'in' NAME 'deep' INT ['up' INT 'late' INT | 'vain' INT] ';' |");
        String s = "bed a 1 1; sleeper";
        goesOn(s, "q", false);
        goesOn(s + " b", "in", false);
        goesOn(s + " b in", "q", false);
        goesOn(s + " b in a", "deep", false);
        goesOn(s + " b in a deep", "7", false);
        goesOn(s + " b in a deep 1", "up vain ;", false);
        goesOn(s + " b in a deep 1 up", "7", false);
        goesOn(s + " b in a deep 1 up 1", "late", false);
        goesOn(s + " b in a deep 1 up 1 late", "7", false);
        goesOn(s + " b in a deep 1 up 1 late 1", ";", false);
        goesOn(s + " b in a deep 1 vain", "7", false);
        goesOn(s + " b in a deep 1 vain 1", ";", false);
        goesOn(s + " b in a deep 1;", tells, true);

        sentence(4, "('hears' | 'again') E ';'.");
        goesOn("hears", UNITS, false);
        goesOn("again", UNITS, false);
        goesOn("hears 1;", tells, true);

        sentence(4, "E: PART {('+' | '-') PART}.");
        goesOn("hears 1 +", UNITS, false);
        goesOn("hears 1 -", UNITS, false);
        goesOn("hears 1 + 1", "+ - * / ;", false);
        goesOn("again 1 - 1", "+ - * / ;", false);

        sentence(4, "PART: UNIT {('*' | '/') UNIT}.");
        goesOn("hears 1 *", UNITS, false);
        goesOn("hears 1 /", UNITS, false);
        goesOn("hears 1 * 1", "+ - * / ;", false);
        goesOn("again 1 / 1", "+ - * / ;", false);

        sentence(4, "UNIT: INT | VAR | '(' E ')' | '[' E ('<' | '==') E ']'.");
        goesOn("hears 1", "+ - * / ;", false);
        goesOn("hears loud", "+ - * / ;", false);
        goesOn("hears (", UNITS, false);
        goesOn("hears (1", "+ - * / )", false);
        goesOn("hears (1 + 1", "+ - * / )", false);
        goesOn("hears (1)", "+ - * / ;", false);
        goesOn("hears ((1)", "+ - * / )", false);
        goesOn("hears ((1) +", UNITS, false);
        goesOn("hears ((1))", "+ - * / ;", false);
        goesOn("hears [", UNITS, false);
        goesOn("hears [1", "+ - * / < ==", false);
        goesOn("hears [1 + 1 * 1", "+ - * / < ==", false);
        goesOn("hears [1 <", UNITS, false);
        goesOn("hears [1 ==", UNITS, false);
        goesOn("hears [1 < 1", "+ - * / ]", false);
        goesOn("hears [1 == 1", "+ - * / ]", false);
        goesOn("hears [1 == 1 * 1 - 1", "+ - * / ]", false);
        goesOn("hears [1 < 1]", "+ - * / ;", false);
        goesOn("hears [(1", "+ - * / )", false);
        goesOn("hears [(1)", "+ - * / < ==", false);
        goesOn("hears [1 < (1)", "+ - * / ]", false);
        goesOn("hears ([1 < 1]", "+ - * / )", false);
        goesOn("hears [[1 < 1]", "+ - * / < ==", false);
        goesOn("hears [[1 < 1] == [1 == 1]", "+ - * / ]", false);

        sentence(4, "VAR: 'loud' | 'gap' | 'floors' | 'hour' | 'deep' | 'wool' | 'after'.");
        for (String var : new String[] {"loud", "gap", "floors", "hour", "deep", "wool", "after"}) good("hears " + var + "; again " + var + ";");
        for (String word : new String[] {"bed", "clock", "fast", "slow", "sleeper", "in", "up", "late", "vain", "hears", "again", "q"}) {
            fault("hears " + word + ";", 1, 6);
        }
    }

    private static void ranges() {
        sentence(4, "BEDS (a FLOOR 0 .. 3, a PLACE 0 .. 9),");
        WakeHouse x = house("bed a 0 0; bed b 3 9; sleeper p in a deep 0; hears gap + floors * 0;");
        due(x.hears(0, 1, 1, 0), 9);
        due(house("bed a 0 0; bed b 3 9; sleeper p in a deep 0; hears floors;").hears(0, 1, 1, 0), 3);
        fault("bed a 4 0;", 5, 6);
        fault("bed a 0 10;", 5, 8);

        sentence(4, "CLOCKS (LOUD 1 .. 12; FAST or SLOW by 0 .. 30 minutes, or right),");
        x = house("bed a 0 0; clock k 1; clock l 12; clock m 3 fast 0; clock n 3 fast 30; clock o 3 slow 0; clock p 3 slow 30;");
        int[] loud = {1, 12, 3, 3, 3, 3};
        int[] minute = {100, 100, 100, 70, 100, 130};
        for (int clock = 0; clock < 6; clock++) {
            x.ring(clock, 0, 100);
            due(x.sound(clock, 2), loud[clock]);
            due(x.sound(clock, 1), minute[clock]);
        }
        fault("clock k 0;", 5, 8);
        fault("clock k 13;", 5, 8);
        fault("clock k 1 fast 31;", 5, 15);
        fault("clock k 1 slow 31;", 5, 15);

        sentence(4, "SLEEPERS (a BED, DEEP 0 .. 9; either an HOUR 0 .. 399 to be UP and what it costs if he is LATE, 0 .. 9,");
        x = house(beds(3) + "sleeper p in ba deep 0 up 0 late 0; sleeper q in bb deep 9 up 399 late 9;");
        due(x.of(0, 1), 0);
        due(x.of(0, 2), 0);
        due(x.of(0, 3), 0);
        due(x.of(1, 1), 9);
        due(x.of(1, 2), 399);
        due(x.of(1, 3), 9);
        fault("bed a 0 0; sleeper p in a deep 10;", 5, 31);
        fault("bed a 0 0; sleeper p in a deep 9 up 400 late 9;", 5, 36);
        fault("bed a 0 0; sleeper p in a deep 9 up 399 late 10;", 5, 45);

        sentence(4, "or none and what it costs if he is woken in VAIN, 0 .. 9, 0 if not told)");
        x = house(beds(3) + "sleeper p in ba deep 0 vain 0; sleeper q in bb deep 0 vain 9; sleeper r in bc deep 0;");
        due(x.of(0, 2), -2);
        due(x.of(0, 4), 0);
        due(x.of(1, 4), 9);
        due(x.of(2, 2), -2);
        due(x.of(2, 4), 0);
        fault("bed a 0 0; sleeper p in a deep 9 vain 10;", 5, 38);

        sentence(4, "are numbered each from 0 on as they stand.");
        x = house("clock z 3; bed q 0 0; clock a 5; bed b 1 1; sleeper y in b deep 7; bed d 2 2; sleeper c in q deep 8; clock m 7;");
        due(x.count(0), 3);
        due(x.count(1), 3);
        due(x.count(2), 2);
        due(x.lies(0), 1);
        due(x.lies(1), 0);
        due(x.lies(2), -2);
        due(x.of(0, 1), 7);
        due(x.of(1, 1), 8);
        for (int clock = 0; clock < 3; clock++) {
            x.ring(clock, 0, 0);
            due(x.sound(clock, 2), 3 + 2 * clock);
        }
    }

    private static void laws() {
        sentence(4, "Of several laws the last one told;");
        WakeHouse x = house("hears 1; again 2; bed a 0 0; again 4; hears 3; sleeper p in a deep 0; hears 5; again 6;");
        due(x.hears(0, 1, 0, 0), 5);
        due(x.again(0, 0), 6);

        sentence(4, "without one: hears is loud - gap - floors * 3 - wool * 4, again is 0.");
        x = house("bed a 0 1; bed b 2 3; sleeper p in a deep 9 up 60 late 1;");
        due(x.hears(0, 10, 0, 0), 10);
        due(x.hears(0, 12, 1, 399), 12 - 2 - 6);
        x.wool(0, true);
        due(x.hears(0, 10, 0, 0), 6);
        for (int after = 0; after < 400; after += 57) due(x.again(0, after), 0);
        x = house("bed a 0 0; sleeper p in a deep 0; again 3;");
        due(x.hears(0, 4, 0, 0), 4);
        x = house("bed a 0 0; sleeper p in a deep 0; hears 3;");
        due(x.again(0, 399), 0);
    }

    private static void firstFault() {
        sentence(4, "FAULTS of a text, the first by its place (a byte; the text's end: its length), of one place the least:");
        fault("hears (((((((1; $", 2, 12);
        fault("$ hears (((((((1;", 1, 0);
        fault("bed a 0 0 hears (((((((1;", 1, 10);
        fault(FULL + "bed $", 2, FULL.length());
        fault("bed", 1, 3);
        fault("bed a 0 0; bed  ", 1, 16);
        fault("hears 1" + " ".repeat(1993), 1, 2000);
        // the 401st TOKEN is one with which no text goes on: both at one place
        fault(FOUR_HUNDRED + "1", 1, FOUR_HUNDRED.length());
        fault(FOUR_HUNDRED + "a", 1, FOUR_HUNDRED.length());
        fault(FOUR_HUNDRED + "$", 1, FOUR_HUNDRED.length());
        // ... or a bed too many, or a ( too deep
        String laws = "hears 1;again 1" + "+1".repeat((400 - 12 * 5 - 9 * 4 - 12 * 7 - 6) / 2) + ";";
        good(FULL + laws);
        fault(FULL + laws + "bed", 2, FULL.length() + laws.length());
        fault("again 1;hears ((((((1" + "+1".repeat(194) + "+(1", 2, 410);
        fault("hears ((((((1" + "+1".repeat(196) + " (1", 1, 406);
    }

    private static void syntax() {
        sentence(4, "1 SYNTAX: a TOKEN, or what is none, with which no text goes on.");
        fault("q", 1, 0);
        fault("bed a 0 0; q", 1, 11);
        fault("bed a 0 0;$", 1, 10);
        fault("bed a 0 99999;", 1, 8);
        fault("bed a 0 0;;", 1, 10);
        fault("hears 1 2;", 1, 8);
        fault("hears );", 1, 6);
        fault("hears [1 < 2 < 3];", 1, 13);
        fault("hears (1 < 2);", 1, 9);
        fault("hears (1];", 1, 8);
        fault("hears [1 < 2);", 1, 12);
    }

    private static void room() {
        sentence(4, "2 ROOM: a 401st TOKEN;");
        good(FOUR_HUNDRED);
        good(FOUR_HUNDRED + "  \n");
        fault(FOUR_HUNDRED + "bed", 2, FOUR_HUNDRED.length());
        fault(FOUR_HUNDRED + "   hears 1;", 2, FOUR_HUNDRED.length() + 3);
        fault("hears 1" + "+1".repeat(199) + ";", 2, 405);
        fault("hears 1" + "+1".repeat(300) + ";", 2, 405);
        fault("hears 1" + "+1".repeat(199), 1, 405);

        sentence(4, "a 13th bed, a 10th clock, a 13th sleeper (at its first TOKEN);");
        good(FULL);
        fault(FULL + " bed z 0 0;", 2, FULL.length() + 1);
        fault(FULL + " clock z 1;", 2, FULL.length() + 1);
        fault(FULL + " sleeper z in y deep 0;", 2, FULL.length() + 1);
        fault(beds(12) + "bed", 2, beds(12).length());
        fault(clocks(9) + "clock", 2, clocks(9).length());
        fault(beds(12) + sleepers(12, "") + "sleeper", 2, (beds(12) + sleepers(12, "")).length());
        fault(beds(13), 2, beds(12).length());
        fault(clocks(10), 2, clocks(9).length());
        fault(beds(12) + sleepers(12, "") + sleeper(12, ""), 2, (beds(12) + sleepers(12, "")).length());
        // twelve beds with a NAME told twice are twelve all the same
        fault(beds(6) + beds(6) + "bed q 0 0;", 2, beds(12).length());
        good(beds(11) + clocks(8) + sleepers(11, "") + "bed q 0 0; clock r 1; sleeper s in q deep 0;");

        sentence(4, "a 7th ( or [ within one another (at it).");
        good("hears ((((((1))))));");
        good("again [[[[[[1<1]<1]<1]<1]<1]<1];");
        good("hears [1<[1<[1<[1<[1<[1==1]]]]]];");
        good("hears ([([([1<1])==1])<1]);");
        good("hears ((((((1)))))) + ((((((1)))))) * [(((((1)))))==[((((1))))<1]];");
        fault("hears (((((((1)))))));", 2, 12);
        fault("again [[[[[[[1<1]<1]<1]<1]<1]<1]<1];", 2, 12);
        fault("hears [1<[1<[1<[1<[1<[1==[1<1]]]]]]];", 2, 25);
        fault("hears ([([([(1)<1])==1])<1]);", 2, 12);
        fault("hears ((((((1)))))) + (((((([1<1]))))));", 2, 28);
        fault("hears ((((((1))))) + ((((((1))))));", 2, 26);
        good("hears ((((((1))))) + (1)); again ((((((1))))));");
        fault("hears ((((((1))))); again 1;", 1, 18);
    }

    private static void twice() {
        sentence(4, "If there is none, likewise:");
        fault("bed a 9 0; bed a 0 0; sleeper p in q deep 0;", 5, 6);
        fault("bed a 0 0; bed a 9 0; sleeper p in q deep 0;", 3, 15);
        fault("sleeper p in q deep 10; bed a 0 10;", 4, 13);
        fault("bed a 9 0; sleeper p in q deep 0; $", 1, 34);
        fault("bed a 9 0; hears (((((((1)))))));", 2, 23);
        fault("bed a 9 0; bed a 0 0; sleeper p in q deep", 1, 41);
        fault(beds(12) + clocks(1) + clocks(1) + "bed", 2, beds(12).length() + 2 * clocks(1).length());
        fault("clock k 0 fast 31;", 5, 8);
        fault("bed a 4 10;", 5, 6);

        sentence(4, "3 TWICE: a NAME told already (of all kinds);");
        fault("bed a 0 0; bed a 0 0;", 3, 15);
        fault("bed a 0 0; clock a 1;", 3, 17);
        fault("bed a 0 0; sleeper a in a deep 0;", 3, 19);
        fault("clock a 1; bed a 0 0;", 3, 15);
        fault("clock a 1; clock a 1;", 3, 17);
        fault("bed b 0 0; clock a 1; sleeper a in b deep 0;", 3, 30);
        fault("bed b 0 0; sleeper a in b deep 0; bed a 0 0;", 3, 38);
        fault("bed b 0 0; sleeper a in b deep 0; clock a 1;", 3, 40);
        fault("bed b 0 0; bed c 0 0; sleeper a in b deep 0; sleeper a in c deep 0;", 3, 53);
        fault(FULL.replace("sleeper sl ", "sleeper ba "), 3, FULL.indexOf("sleeper sl") + 8);
        fault(FULL.replace("sleeper sl ", "sleeper sk "), 3, FULL.indexOf("sleeper sl") + 8);

        sentence(4, "a BED in which a SLEEPER lies already (at its NAME).");
        fault("bed a 0 0; sleeper p in a deep 0; sleeper q in a deep 0;", 3, 47);
        fault(beds(12) + sleepers(11, "") + "sleeper q in ba deep 0;", 3, (beds(12) + sleepers(11, "")).length() + 13);
        fault(beds(12) + sleeper(11, "") + "sleeper q in bl deep 0;", 3, (beds(12) + sleeper(11, "")).length() + 13);
        good("bed a 0 0; bed b 0 0; sleeper p in b deep 0; sleeper q in a deep 0;");
    }

    private static void names() {
        sentence(4, "4 NAME: no BED told ahead.");
        fault("sleeper p in a deep 0;", 4, 13);
        fault("sleeper p in a deep 0; bed a 0 0;", 4, 13);
        fault("bed a 0 0; sleeper p in b deep 0;", 4, 24);
        fault("clock a 1; sleeper p in a deep 0;", 4, 24);
        fault("sleeper p in p deep 0;", 4, 13);
        fault("bed a 0 0; sleeper p in a deep 0; bed b 0 0; sleeper q in p deep 0;", 4, 58);
        fault("bed ab 0 0; sleeper p in a deep 0;", 4, 25);
    }

    private static void wrong() {
        sentence(4, "5 WRONG (at the INT): a FLOOR above 3,");
        for (int i = 0; i <= 3; i++) good("bed a " + i + " 0;");
        fault("bed a 4 0;", 5, 6);
        fault("bed a 9999 0;", 5, 6);
        fault("bed a 0004 0;", 5, 6);

        sentence(4, "a PLACE, DEEP, LATE or VAIN above 9,");
        for (int i = 0; i <= 10; i++) {
            int fault = i > 9 ? 5 : 0;
            WakeHouse x = new WakeHouse();
            due(tell(x, "bed a 0 " + i + ";"), fault);
            due(x.place(), i > 9 ? 8 : -1);
            due(tell(x, "bed a 0 0; sleeper p in a deep " + i + ";"), fault);
            due(x.place(), i > 9 ? 31 : -1);
            due(tell(x, "bed a 0 0; sleeper p in a deep 0 up 0 late " + i + ";"), fault);
            due(x.place(), i > 9 ? 43 : -1);
            due(tell(x, "bed a 0 0; sleeper p in a deep 0 vain " + i + ";"), fault);
            due(x.place(), i > 9 ? 38 : -1);
        }

        sentence(4, "LOUD not 1 .. 12,");
        for (int i = 0; i <= 13; i++) {
            WakeHouse x = new WakeHouse();
            due(tell(x, "clock k " + i + ";"), i < 1 || i > 12 ? 5 : 0);
            due(x.place(), i < 1 || i > 12 ? 8 : -1);
        }

        sentence(4, "FAST or SLOW above 30,");
        good("clock k 1 fast 0; clock l 1 slow 0; clock m 1 fast 30; clock n 1 slow 30;");
        fault("clock k 1 fast 31;", 5, 15);
        fault("clock k 1 slow 31;", 5, 15);
        fault("clock k 1 slow 9999;", 5, 15);

        sentence(4, "an HOUR above 399.");
        good("bed a 0 0; sleeper p in a deep 0 up 0 late 0;");
        good("bed a 0 0; sleeper p in a deep 0 up 399 late 0;");
        fault("bed a 0 0; sleeper p in a deep 0 up 400 late 0;", 5, 36);
        // in a law an INT may be any
        good("hears 9999 + 13 - 400;");
    }

    private static void changes() {
        String text = "bed a 0 0; bed b 1 2; clock k 9; sleeper p in a deep 3 up 90 late 2; sleeper q in b deep 1 vain 4; hears 6; again 2;";
        sentence(4, "A text with a FAULT changes nothing but the tape;");
        WakeHouse x = house(text);
        x.ring(0, 1, 80);
        x.wool(1, true);
        x.swap(0, 1);
        x.morning(0, 0, 30);
        x.annul(0);
        x.hold(1);
        for (String bad : new String[] {"hears 1; again 1; bed", "hears 1; again (((((((1)))))));", "bed a 0 0; bed a 0 0; hears 1; again 1;",
            "sleeper q in q deep 1; hears 1; again 1;", "clock k 13; hears 1; again 1;"}) {
            String state = look(x);
            due(tell(x, bad) > 0, true);
            same(look(x).replaceAll(" -?\\d+$", ""), state.replaceAll(" -?\\d+$", ""));
            due(x.count(6), 0);
            due(x.hears(0, 1, 0, 0), 6);
            due(x.again(0, 1), 2);
            due(x.hours(0), 90);
            due(x.restore(1), true);
        }

        // nothing of a text with a FAULT is left for the next one
        for (String bad : new String[] {"hears ((((((1;", "again [1<[1<(((1 $", "hears 1*(2+", "bed q 3 9; clock r 9 fast 30; sleeper s in q deep 9 up 9 late 9;;"}) {
            due(tell(x, bad), 1);
            due(tell(x, "bed q 0 0; clock r 1; sleeper s in q deep 0; hears ((((((3)))))) - 1;"), 0);
            due(x.hears(0, 1, 0, 0), 2);
            due(x.of(0, 2), -2);
            due(x.of(0, 3), 0);
            due(x.count(0), 1);
            x.ring(0, 0, 100);
            due(x.sound(0, 1), 100);
        }
        due(tell(x, text), 0);

        sentence(4, "else it is in place of the one ahead: the PLAN is empty, nobody has WOOL, there are no MORNINGS; SLOTS hold nothing.");
        x.hold(0);
        due(tell(x, text), 0);
        int[] counts = {2, 1, 2, 0, 0, 0, 0, 0};
        for (int what = 0; what <= 7; what++) due(x.count(what), counts[what]);
        due(x.sound(0, 0), -1);
        due(x.of(1, 5), 0);
        due(x.lies(0), 0);
        due(x.lies(1), 1);
        due(x.restore(0), false);
        due(x.restore(1), false);
        due(tell(x, "bed q 2 2;"), 0);
        due(x.count(0), 1);
        due(x.count(1), 0);
        due(x.count(2), 0);
        due(x.hours(-1), 0);
        due(tell(x, "bed q 2 2; sleeper r in q deep 0;"), 0);
        due(x.hears(0, 3, 0, 0), 3);
        due(x.again(0, 3), 0);
        x.hold(0);
        due(x.read(), 0);
        due(x.count(0), 0);
        due(x.count(7), 0);
        due(tell(x, "bed q 3 9; clock r 9 fast 30; clock s 9 slow 30; sleeper t in q deep 9 up 60 late 9;"), 0);
        due(tell(x, "bed q 0 0; bed u 0 1; clock r 9; clock s 9; sleeper t in q deep 0 vain 3; sleeper v in u deep 0 up 70 late 1;"), 0);
        due(x.of(0, 3), 0);
        due(x.of(0, 4), 3);
        due(x.of(1, 4), 0);
        due(x.hours(-1), 1);
        due(x.hours(0), 70);
        due(x.round(0), 70);
        due(x.roundAt(0, 0), 1);
        due(x.roundAt(0, 1), -1);
        due(x.shakes(1, 0), 0);
        for (int clock = 0; clock < 2; clock++) {
            x.ring(clock, 0, 100);
            due(x.sound(clock, 1), 100);
        }
        due(tell(x, "bed q 0 0; sleeper t in q deep 0;"), 0);
        due(x.of(0, 4), 0);
        due(tell(x, "bed q 0 0; sleeper t in q deep 0 up 9 late 9; again 9;"), 0);
        due(x.again(0, 5), 9);
        due(tell(x, "bed q 0 0; sleeper t in q deep 0 up 9 late 9; again 8;"), 0);
        due(x.again(0, 5), 8);
    }
}
