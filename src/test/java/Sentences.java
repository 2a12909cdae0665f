import java.io.IOException;
import java.nio.charset.StandardCharsets;
import java.nio.file.Files;
import java.nio.file.Path;
import java.util.BitSet;
import java.util.Map;
import java.util.TreeMap;
import java.util.regex.Matcher;
import java.util.regex.Pattern;

/**
 * Tests by sentence: each one names a promise and quotes the words of DOC.md that it holds the class to. The quotes
 * must stand in the document, and at the end no word of its Terms and promises may be left without a quote.
 */
abstract class Sentences {
    private static final Map<Integer, Part> PROMISES = new TreeMap<>();
    private static final int PROMISE_COUNT = 49;
    private static Part terms;
    private static Part face;
    private static int promise;
    private static String quote = "";
    private static int sentences = 0;
    private static int checksHere = 1;
    private static int checks = 0;
    private static int wrong = 0;

    /** A part of the document, and which of its signs are quoted by now. */
    private static final class Part {
        final String text;
        final BitSet quoted = new BitSet();

        Part(String text) {
            this.text = text.replaceAll("\\s+", " ").trim();
        }

        boolean take(String words) {
            boolean found = false;
            for (int at = text.indexOf(words); at >= 0; at = text.indexOf(words, at + 1)) {
                quoted.set(at, at + words.length());
                found = true;
            }
            return found;
        }

        void complain(String name) {
            StringBuilder left = new StringBuilder();
            for (int i = 0; i < text.length(); i++) {
                boolean open = !quoted.get(i) && Character.isLetterOrDigit(text.charAt(i));
                if (open && left.length() < 100) left.append(text.charAt(i));
            }
            if (left.length() > 0) wrong(name + " has words that no test quotes: " + left);
        }
    }


    static void load() throws IOException {
        String doc = Files.readString(Path.of("../shared/DOC.md"), StandardCharsets.UTF_8);
        int termsAt = doc.indexOf("## Terms");
        int promisesAt = doc.indexOf("## Promise 1:");
        face = new Part(doc.substring(0, termsAt));
        terms = new Part(doc.substring(termsAt, promisesAt).replaceAll("## Terms|```text|```|==== [IV]+\\.", " "));
        String promises = doc.substring(promisesAt, doc.indexOf("## Not promised"));
        Matcher m = Pattern.compile("(?s)## Promise (\\d+): \\w[^\n]*\n\n`[^`]*`: (.*?)(?=## Promise|$)").matcher(promises);
        while (m.find()) PROMISES.put(Integer.parseInt(m.group(1)), new Part(m.group(2)));
        if (PROMISES.size() != PROMISE_COUNT) wrong("DOC.md has " + PROMISES.size() + " promises");
    }

    /** What follows, up to the next sentence, would fail if these words of the document were broken. */
    static void sentence(int number, String words) {
        if (checksHere == 0) wrong(name() + " checks nothing");
        promise = number;
        quote = words;
        checksHere = 0;
        sentences++;
        Part own = PROMISES.get(number);
        boolean inOwn = own != null && own.take(words);
        boolean inTerms = terms.take(words);
        if (!inOwn && !inTerms && !face.take(words)) wrong(name() + " is not what the document says");
    }

    private static String name() {
        return "Promise " + promise + " \"" + quote + "\"";
    }

    private static void wrong(String what) {
        wrong++;
        System.out.println(what);
    }

    static void due(long got, long want) {
        checks++;
        checksHere++;
        if (got == want) return;
        StringBuilder lines = new StringBuilder();
        for (StackTraceElement e : new Throwable().getStackTrace()) {
            if (!e.getClassName().equals("Sentences")) lines.append(' ').append(e.getFileName()).append(':').append(e.getLineNumber());
        }
        wrong(name() + lines + ": the answer is " + got + ", due is " + want);
    }

    static void due(boolean got, boolean want) {
        due(got ? 1L : 0L, want ? 1L : 0L);
    }

    static void due(long[] got, long... want) {
        due(got.length, want.length);
        for (int i = 0; i < Math.min(got.length, want.length); i++) due(got[i], want[i]);
    }

    /** Says what is left without a test; true if all is as due. */
    static boolean allDue() {
        if (checksHere == 0) wrong(name() + " checks nothing");
        terms.complain("Terms");
        for (Map.Entry<Integer, Part> e : PROMISES.entrySet()) e.getValue().complain("Promise " + e.getKey());
        System.out.println(sentences + " sentences, " + checks + " checks, " + wrong + " wrong");
        return wrong == 0;
    }

    // ---- what the tests need over and over

    /** Puts a text behind the tape: in pieces of twenty bytes, then takes back what was filled up. */
    static void feed(WakeHouse x, String text) {
        StringBuilder s = new StringBuilder(text);
        while (s.length() % 20 != 0) s.append('#');
        for (int i = 0; i < s.length(); i += 20) {
            int[] five = new int[5];
            for (int j = 0; j < 20; j++) five[j / 4] = five[j / 4] << 8 | s.charAt(i + j) & 255;
            x.feed(five[0], five[1], five[2], five[3], five[4]);
        }
        x.back(s.length() - text.length());
    }

    static int tell(WakeHouse x, String text) {
        feed(x, text);
        return x.read();
    }

    /** A house of a text without a FAULT. */
    static WakeHouse house(String text) {
        WakeHouse x = new WakeHouse();
        due(tell(x, text), 0);
        return x;
    }

    static void good(String text) {
        WakeHouse x = new WakeHouse();
        due(tell(x, text), 0);
        due(x.place(), -1);
    }

    static void fault(String text, int number, int place) {
        WakeHouse x = new WakeHouse();
        due(tell(x, text), number);
        due(x.place(), place);
    }

    /** All that can be seen of the state, as one text: for calls by which nothing may happen. */
    static String look(WakeHouse x) {
        StringBuilder s = new StringBuilder();
        for (int what = 0; what <= 7; what++) s.append(x.count(what)).append(' ');
        for (int bed = 0; bed < x.count(0); bed++) s.append(x.lies(bed)).append(' ');
        for (int sleeper = 0; sleeper < x.count(2); sleeper++) {
            for (int what = 0; what <= 5; what++) s.append(x.of(sleeper, what)).append(' ');
            s.append(x.alone(sleeper, 7, x.count(4), 0)).append(x.alone(sleeper, 0, x.count(4), 1)).append(' ');
        }
        for (int sound = 0; sound < x.count(3); sound++) {
            for (int what = 0; what <= 3; what++) s.append(x.sound(sound, what)).append(' ');
        }
        return s.append(x.cost()).append(' ').append(x.place()).toString();
    }

    static void same(String got, String want) {
        due(got.equals(want), true);
    }

    /** n beds, from b'a' on, all on one FLOOR at PLACE 0; further tells behind them. */
    static String beds(int n) {
        StringBuilder s = new StringBuilder();
        for (int i = 0; i < n; i++) s.append("bed b").append((char) ('a' + i)).append(" 0 0;");
        return s.toString();
    }

    static String clocks(int n) {
        StringBuilder s = new StringBuilder();
        for (int i = 0; i < n; i++) s.append("clock c").append((char) ('a' + i)).append(" 1;");
        return s.toString();
    }

    /** n sleepers, each in the bed of his number, all told alike behind their DEEP. */
    static String sleepers(int n, String duty) {
        StringBuilder s = new StringBuilder();
        for (int i = 0; i < n; i++) s.append(sleeper(i, duty));
        return s.toString();
    }

    static String sleeper(int i, String duty) {
        char letter = (char) ('a' + i);
        return "sleeper s" + letter + " in b" + letter + " deep 0 " + duty + ";";
    }
}
