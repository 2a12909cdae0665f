import java.lang.reflect.Method;
import java.nio.charset.StandardCharsets;
import java.nio.file.Files;
import java.nio.file.Path;
import java.util.Set;
import java.util.TreeSet;
import java.util.regex.Matcher;
import java.util.regex.Pattern;

/** Tells the text of README.md to a new object, makes the calls that stand behind it, and looks at their answers. */
public final class ReadmeTest {
    private static final Pattern CALL = Pattern.compile("x\\.(\\w+)\\(([^)]*)\\); +// (-?\\d+|true|false)\\b.*");
    private static final Set<String> LEFT = new TreeSet<>();
    private static int wrong = 0;
    private static int calls = 0;

    public static void main(String[] args) throws Exception {
        String readme = Files.readString(Path.of("README.md"), StandardCharsets.UTF_8);
        for (Method m : WakeHouse.class.getDeclaredMethods()) {
            boolean face = java.lang.reflect.Modifier.isPublic(m.getModifiers());
            if (face && !readme.contains("`" + m.getName() + "`")) LEFT.add(m.getName());
        }
        WakeHouse x = new WakeHouse();
        int fault = Sentences.tell(x, block(readme, "text"));
        if (fault != 0) wrong("the text has FAULT " + fault + " at " + x.place());
        for (String line : block(readme, "answers").split("\n")) {
            if (!line.isEmpty() && !line.startsWith("// ")) call(x, line);
        }
        for (String name : LEFT) wrong(name + " is not told");
        System.out.println(calls + " calls of README.md, " + wrong + " wrong");
        if (wrong != 0) System.exit(1);
    }

    private static String block(String readme, String kind) {
        int from = readme.indexOf("```" + kind + "\n") + kind.length() + 4;
        return readme.substring(from, readme.indexOf("```", from));
    }

    private static void wrong(String what) {
        wrong++;
        System.out.println(what);
    }

    private static void call(WakeHouse x, String line) throws Exception {
        Matcher m = CALL.matcher(line);
        if (!m.matches()) {
            wrong("no call with its answer: " + line);
            return;
        }
        String[] words = m.group(2).isEmpty() ? new String[0] : m.group(2).split(", ");
        Class<?>[] kinds = new Class<?>[words.length];
        Object[] values = new Object[words.length];
        for (int i = 0; i < words.length; i++) {
            boolean bit = words[i].equals("true") || words[i].equals("false");
            kinds[i] = bit ? boolean.class : int.class;
            values[i] = bit ? (Object) Boolean.valueOf(words[i]) : (Object) Integer.valueOf(words[i]);
        }
        LEFT.remove(m.group(1));
        calls++;
        String got = WakeHouse.class.getMethod(m.group(1), kinds).invoke(x, values).toString();
        if (!got.equals(m.group(3))) wrong(line + "   answered " + got);
    }
}
