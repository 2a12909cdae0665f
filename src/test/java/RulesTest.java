import java.lang.reflect.Constructor;
import java.lang.reflect.Field;
import java.lang.reflect.Method;
import java.lang.reflect.Modifier;
import java.nio.charset.StandardCharsets;
import java.nio.file.Files;
import java.nio.file.Path;
import java.util.Set;
import java.util.TreeSet;
import java.util.regex.Matcher;
import java.util.regex.Pattern;

/** The rules of LANGUAGE.md that can be seen from the file and from the compiled class. */
public final class RulesTest {
    private static int wrong = 0;

    private static void rule(int number, boolean kept, String what) {
        if (!kept) {
            wrong++;
            System.out.println("rule " + number + ": " + what);
        }
    }

    public static void main(String[] args) throws Exception {
        String source = Files.readString(Path.of("src/main/java/WakeHouse.java"), StandardCharsets.UTF_8);
        String bare = source.replaceAll("(?s)/\\*.*?\\*/", "").replaceAll("//[^\n]*", "").replaceAll("\"[^\"\n]*\"", "\"\"");
        face();
        classes();
        words(bare);
        lengths(bare);
        wrong += TreeRules.broken(Path.of("src/main/java/WakeHouse.java"));
        System.out.println(wrong == 0 ? "all rules are kept" : wrong + " rules are broken");
        if (wrong != 0) System.exit(1);
    }

    /** Rule 1: the face is the document's, and no private method bears a public name. */
    private static void face() throws Exception {
        String doc = Files.readString(Path.of("../shared/DOC.md"), StandardCharsets.UTF_8);
        String block = doc.substring(doc.indexOf("```java"), doc.indexOf("```", doc.indexOf("```java") + 7));
        Set<String> due = new TreeSet<>();
        Matcher m = Pattern.compile("public (\\w+) (\\w+)\\(([^)]*)\\);").matcher(block);
        while (m.find()) due.add(m.group(1) + " " + m.group(2) + "(" + m.group(3).replaceAll(" \\w+(,|$)", "$1") + ")");
        Set<String> got = new TreeSet<>();
        Set<String> names = new TreeSet<>();
        for (Method x : WakeHouse.class.getDeclaredMethods()) {
            if (Modifier.isPrivate(x.getModifiers()) || x.isSynthetic()) continue;
            rule(1, Modifier.isPublic(x.getModifiers()) && !Modifier.isStatic(x.getModifiers()), x + " is not of the face");
            StringBuilder s = new StringBuilder(x.getReturnType() + " " + x.getName() + "(");
            for (Class<?> p : x.getParameterTypes()) s.append(s.charAt(s.length() - 1) == '(' ? "" : ", ").append(p);
            got.add(s + ")");
            names.add(x.getName());
        }
        rule(1, due.equals(got) && due.size() == 48, "the face is " + got + ", due is " + due);
        rule(1, Modifier.isFinal(WakeHouse.class.getModifiers()) && Modifier.isPublic(WakeHouse.class.getModifiers()), "public, final");
        for (Constructor<?> c : WakeHouse.class.getDeclaredConstructors()) {
            rule(1, Modifier.isPublic(c.getModifiers()) && c.getParameterCount() == 0, c + " is not of the face");
        }
        for (Class<?> c : WakeHouse.class.getDeclaredClasses()) {
            for (Method x : c.getDeclaredMethods()) rule(1, !names.contains(x.getName()), x + " bears a public name");
        }
        for (Field f : WakeHouse.class.getDeclaredFields()) {
            rule(1, f.getName().equals("NONE") == Modifier.isPublic(f.getModifiers()), f.getName());
            rule(1, f.getName().equals("NONE") || Modifier.isPrivate(f.getModifiers()), f.getName() + " is not private");
        }
    }

    /** Rules 2, 3, 5 and 11: the classes, their fields, their methods' parameters. */
    private static void classes() {
        Class<?>[] inside = WakeHouse.class.getDeclaredClasses();
        rule(11, inside.length + 1 <= 12, "more than twelve classes");
        Class<?>[] all = java.util.Arrays.copyOf(inside, inside.length + 1);
        all[inside.length] = WakeHouse.class;
        for (Class<?> c : all) {
            rule(2, c == WakeHouse.class || Modifier.isStatic(c.getModifiers()), c + " is not static");
            rule(2, c.getDeclaredClasses().length == 0 || c == WakeHouse.class, c + " has classes inside");
            int fields = 0;
            for (Field f : c.getDeclaredFields()) {
                if (f.isSynthetic()) continue;
                if (!Modifier.isStatic(f.getModifiers())) {
                    fields++;
                    continue;
                }
                rule(5, Modifier.isFinal(f.getModifiers()), f + " is not final");
                rule(5, Set.of("int", "long", "boolean", "char", "class java.lang.String", "class [I", "class [J", "class [C", "class [B")
                    .contains(f.getType().toString()), f + " is no constant");
            }
            rule(11, fields <= 20, c + " has " + fields + " fields");
            for (Method x : c.getDeclaredMethods()) rule(11, x.getParameterCount() <= 7, x + " takes too much");
        }
    }

    /** Rules 2, 4, 6 and 13: what must not stand in the file. */
    private static void words(String bare) {
        for (String word : new String[] {"throw", "throws", "try", "catch", "finally", "synchronized", "assert", "Random", "System.nano",
            "System.current", "Thread", "Object", "hashCode", "Exact", "double", "float", "lambda", "package", "protected"}) {
            rule(6, !Pattern.compile("\\b" + Pattern.quote(word)).matcher(bare).find(), "'" + word + "' stands in the file");
        }
        rule(2, !bare.contains("->") && !bare.contains("::"), "lambda or method reference");
        rule(10, !Pattern.compile("\"\"\\s*\\+|\\+\\s*\"\"").matcher(bare).find(), "texts are joined by +");
        Matcher m = Pattern.compile("import ([\\w.]+);").matcher(bare);
        while (m.find()) rule(4, Set.of("java.util.Arrays", "java.util.ArrayList", "java.util.List").contains(m.group(1)), m.group(1));
        m = Pattern.compile("\\b(Math|Integer|Long|System|Arrays)\\.(\\w+)").matcher(bare);
        while (m.find()) {
            String call = m.group(1) + "." + m.group(2);
            rule(4, Set.of("Math.min", "Math.max", "Math.abs", "Integer.bitCount", "Long.bitCount", "System.arraycopy",
                "Arrays.fill").contains(call), call + " is not known to be allowed");
        }
        for (int i = 0; i < bare.length(); i++) rule(4, bare.charAt(i) < 128, "a sign above 127");
    }

    /** Rule 11: methods stay short. */
    private static void lengths(String bare) {
        String[] lines = bare.split("\n", -1);
        for (int i = 0; i < lines.length; i++) {
            Matcher m = Pattern.compile("^( +)(?!return|else|new|class)[\\w\\[\\]. ]*\\b(\\w+)\\([^;]*\\) \\{$").matcher(lines[i]);
            if (!m.find() || Set.of("for", "if", "while", "switch").contains(m.group(2))) continue;
            int end = i;
            while (!lines[end].equals(m.group(1) + "}")) end++;
            rule(11, end - i < 60, m.group(2) + " has " + (end - i + 1) + " lines");
        }
    }
}
