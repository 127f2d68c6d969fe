import java.lang.reflect.Constructor;
import java.lang.reflect.Field;
import java.lang.reflect.Method;
import java.lang.reflect.Modifier;
import java.nio.file.Files;
import java.nio.file.Path;
import java.util.List;
import java.util.Set;
import java.util.TreeSet;
import java.util.regex.Matcher;
import java.util.regex.Pattern;

/** The document's face, and those rules of LANGUAGE.md that a look at the source can tell. */
public final class LanguageTest {
    private static final Check CHECK = new Check();
    private static final String[] FACE = {
        "letters 2", "order 1", "term 4", "number 3", "wipe 0", "draft 1", "times 3", "row 0", "drop 0",
        "copy 1", "rest 0", "in 0", "base 1", "element 1", "count 1", "free 2", "quotient 1", "regular 0",
        "keep 0", "swap 0", "dimension 2", "parts 0", "claim 1", "sum 0", "told 1"};

    public static void main(String[] args) throws Exception {
        face();
        classesInside();
        String source = Files.readString(Path.of("src/main/java/HeapTower.java"));
        words(source);
        lengths(source);
        CHECK.end();
    }

    private static void face() throws Exception {
        Class<?> c = HeapTower.class;
        CHECK.holds("public and final", Modifier.isPublic(c.getModifiers()) && Modifier.isFinal(c.getModifiers()));
        Set<String> due = new TreeSet<>(List.of(FACE));
        Set<String> seen = new TreeSet<>();
        Set<String> names = new TreeSet<>();
        for (String f : FACE) {
            names.add(f.substring(0, f.indexOf(' ')));
        }
        for (Method m : c.getDeclaredMethods()) {
            if (Modifier.isPublic(m.getModifiers())) {
                seen.add(m.getName() + " " + m.getParameterCount());
                boolean ints = m.getReturnType() == int.class && !Modifier.isStatic(m.getModifiers());
                for (Class<?> p : m.getParameterTypes()) {
                    ints = ints && p == int.class;
                }
                CHECK.holds(m.getName() + " is of int", ints);
            } else {
                CHECK.holds(m.getName() + " is private", Modifier.isPrivate(m.getModifiers()));
                CHECK.holds(m.getName() + " is no public name", !names.contains(m.getName()));
            }
        }
        CHECK.holds("the face " + seen, seen.equals(due));
        for (Constructor<?> k : c.getDeclaredConstructors()) {
            CHECK.holds("the constructor", Modifier.isPublic(k.getModifiers()) && k.getParameterCount() == 0);
        }
        for (Field f : c.getDeclaredFields()) {
            CHECK.holds(f.getName() + " is private", f.getName().equals("NO") || Modifier.isPrivate(f.getModifiers()));
        }
        Field no = c.getField("NO");
        CHECK.holds("NO is a constant", Modifier.isStatic(no.getModifiers()) && Modifier.isFinal(no.getModifiers()));
        CHECK.due("NO", no.getInt(null), -1000000);
    }

    private static void classesInside() {
        Class<?>[] inside = HeapTower.class.getDeclaredClasses();
        CHECK.holds("at most twelve classes", inside.length <= 11);
        for (Class<?> c : inside) {
            int m = c.getModifiers();
            CHECK.holds(c + " is static", Modifier.isStatic(m));
            CHECK.holds(c + " is not public", !Modifier.isPublic(m) && !Modifier.isProtected(m));
            for (Method method : c.getDeclaredMethods()) {
                for (String f : FACE) {
                    CHECK.holds(c + " has " + f, !f.startsWith(method.getName() + " "));
                }
            }
        }
        fields(HeapTower.class);
        for (Class<?> c : inside) {
            fields(c);
        }
    }

    private static void fields(Class<?> c) {
        int own = 0;
        for (Field f : c.getDeclaredFields()) {
            boolean isStatic = Modifier.isStatic(f.getModifiers());
            own += isStatic ? 0 : 1;
            CHECK.holds(f + " is final", !isStatic || Modifier.isFinal(f.getModifiers()));
        }
        CHECK.holds(c + " has at most twenty fields", own <= 20);
        for (Method m : c.getDeclaredMethods()) {
            CHECK.holds(m + " takes at most seven", m.getParameterCount() <= 7);
        }
    }

    private static String withoutComments(String source) {
        return source.replaceAll("(?s)/\\*.*?\\*/", "").replaceAll("//[^\n]*", "");
    }

    private static void words(String source) {
        String code = withoutComments(source);
        String[] barred = {"throw", "throws", "try", "catch", "finally", "synchronized", "assert", "package",
            "instanceof", "var", "volatile", "transient", "native", "float", "double", "Object", "Random",
            "Thread", "File", "hashCode", "toString", "equals"};
        for (String w : barred) {
            CHECK.holds("no " + w, !Pattern.compile("\\b" + w + "\\b").matcher(code).find());
        }
        CHECK.holds("no lambda", !code.contains("->"));
        CHECK.holds("no method reference", !code.contains("::"));
        CHECK.holds("no static block", !Pattern.compile("static\\s*\\{").matcher(code).find());
        only(code, "import\\s+([\\w.*]+)", Set.of("java.util.Arrays"));
        only(code, "\\bSystem\\.(\\w+)", Set.of("arraycopy"));
        only(code, "\\bArrays\\.(\\w+)", Set.of("fill", "copyOf", "copyOfRange"));
        only(code, "\\bMath\\.(\\w+)", Set.of("max", "min", "abs", "floorMod", "floorDiv"));
        only(code, "\\bnew\\s+(\\w+)",
                Set.of("int", "Base", "Heap", "Rows", "Numbers", "Products", "Polynomial"));
        for (int i = 0; i < source.length(); i++) {
            if (source.charAt(i) > 126) {
                CHECK.holds("plain signs alone", false);
            }
        }
    }

    private static void only(String code, String pattern, Set<String> allowed) {
        Matcher m = Pattern.compile(pattern).matcher(code);
        while (m.find()) {
            CHECK.holds(m.group(), allowed.contains(m.group(1).replaceFirst("^util\\.", "")));
        }
    }

    /** A method begins with a line that ends in ") {" at its class's depth. */
    private static void lengths(String source) {
        String[] lines = source.split("\n");
        for (int i = 0; i < lines.length; i++) {
            Matcher m = Pattern.compile("^(    |        )(\\w.*\\)) \\{$").matcher(lines[i]);
            if (m.matches() && !m.group(2).matches("(for|if|while|switch) .*")) {
                int end = i;
                while (end < lines.length && !lines[end].equals(m.group(1) + "}")) {
                    end++;
                }
                CHECK.holds(m.group(2) + " is short", end - i <= 60);
            }
        }
    }
}
