import java.io.IOException;
import java.lang.reflect.Constructor;
import java.lang.reflect.Field;
import java.lang.reflect.Method;
import java.lang.reflect.Modifier;
import java.nio.file.Files;
import java.nio.file.Path;
import java.util.Set;
import java.util.TreeSet;
import java.util.regex.Matcher;
import java.util.regex.Pattern;

/** The face of the class, and of the rules of LANGUAGE.md those that can be seen from outside of a method. */
public final class LanguageTest {
    private static final Check CHECK = new Check();
    private static final String FACE = "boolean admit int; int back int; int barredIn int; int bridges; int centre int; int clerks int;"
        + " boolean close int boolean; int count int; int days int; int far int int; int feed int int int int int; int forget;"
        + " boolean hold int; int liars; int listen int int; int longest int int; int meet int; int often int int;"
        + " int person int int; int place; int read; boolean restore int; int ringer; int rings int; int road int int;"
        + " int rungIn int int; boolean send int int; int soonest int; int steps int int; int stranger int; int tell int boolean;"
        + " int then int int; int town int int; int tree; int truth; int turns; boolean undo; int walks int; int when int;"
        + " int whence int int int; int wish int; int year int int int";
    private static final int MOST_LINES = 60;

    public static void main(String[] args) throws IOException {
        String source = Files.readString(Path.of("src/main/java/NoonRinger.java"));
        face();
        classes();
        words(withoutCommentsAndTexts(source));
        objects(withoutCommentsAndTexts(source));
        lengths(source);
        CHECK.end();
    }

    private static void face() {
        Set<String> methods = new TreeSet<>();
        for (Method m : NoonRinger.class.getDeclaredMethods()) {
            if (!Modifier.isPrivate(m.getModifiers())) {
                StringBuilder so = new StringBuilder(m.getReturnType() + " " + m.getName());
                for (Class<?> c : m.getParameterTypes()) {
                    so.append(' ').append(c);
                }
                CHECK.due("public and of an object: " + so, m.getModifiers(), Modifier.PUBLIC);
                methods.add(so.toString());
            }
        }
        Set<String> due = new TreeSet<>(Set.of(FACE.split("; ")));
        CHECK.due("methods " + methods + ", due are " + due, methods.equals(due), true);
        Constructor<?>[] made = NoonRinger.class.getDeclaredConstructors();
        CHECK.due("constructors", made.length, 1);
        CHECK.due("parameters", made[0].getParameterCount(), 0);
        CHECK.due("public constructor", made[0].getModifiers(), Modifier.PUBLIC);
        CHECK.due("public final class", NoonRinger.class.getModifiers(), Modifier.PUBLIC | Modifier.FINAL);
        for (Field f : NoonRinger.class.getDeclaredFields()) {
            CHECK.due("private or NONE: " + f, Modifier.isPrivate(f.getModifiers()) || f.getName().equals("NONE"), true);
        }
    }

    private static void classes() {
        Set<String> open = new TreeSet<>();
        for (String method : FACE.split("; ")) {
            open.add(method.split(" ")[1]);
        }
        CHECK.due("some twelve classes", NoonRinger.class.getDeclaredClasses().length <= 12, true);
        inOne(NoonRinger.class, open);
        for (Class<?> c : NoonRinger.class.getDeclaredClasses()) {
            CHECK.due("static: " + c, Modifier.isStatic(c.getModifiers()), true);
            CHECK.due("not public: " + c, Modifier.isPublic(c.getModifiers()) || Modifier.isProtected(c.getModifiers()), false);
            CHECK.due("nothing inside " + c, c.getDeclaredClasses().length, 0);
            inOne(c, open);
        }
    }

    private static void inOne(Class<?> c, Set<String> open) {
        int fields = 0;
        for (Field f : c.getDeclaredFields()) {
            boolean isStatic = Modifier.isStatic(f.getModifiers());
            fields += isStatic ? 0 : 1;
            CHECK.due("static and not final: " + f, isStatic && !Modifier.isFinal(f.getModifiers()), false);
        }
        CHECK.due("some twenty fields in " + c + ", not " + fields, fields <= 20, true);
        for (Method m : c.getDeclaredMethods()) {
            CHECK.due("at most seven parameters: " + m, m.getParameterCount() <= 7, true);
            CHECK.due("the name of a public one: " + m, Modifier.isPrivate(m.getModifiers()) && open.contains(m.getName()), false);
            CHECK.due("made by the compiler: " + m, m.isSynthetic(), false);
        }
    }

    private static String withoutCommentsAndTexts(String source) {
        return source.replaceAll("(?s)/\\*.*?\\*/", "").replaceAll("//[^\\n]*", "")
            .replaceAll("\"(\\\\.|[^\"\\\\])*\"", "\"\"").replaceAll("'(\\\\.|[^'\\\\])'", "'x'");
    }

    private static void words(String code) {
        for (String word : new String[] {"throw", "throws", "try", "catch", "synchronized", "assert", "import", "package",
            "goto", "volatile", "transient", "native", "protected", "Object", "System", "Thread", "Random", "hashCode",
            "toString", "equals", "yield", "var", "instanceof"}) {
            CHECK.due("the word " + word, Pattern.compile("\\b" + word + "\\b").matcher(code).find(), false);
        }
        for (String sign : new String[] {"->", "::", "@", "\"\" +", "+ \"\"", "static {"}) {
            CHECK.due("the sign " + sign, code.contains(sign), false);
        }
        Matcher library = Pattern.compile("\\b(Math|Integer|Long|Arrays|List)\\.(\\w+)").matcher(code);
        Set<String> used = new TreeSet<>();
        while (library.find()) {
            used.add(library.group());
        }
        used.removeAll(Set.of("Math.min", "Math.max", "Integer.bitCount"));
        CHECK.due("of the library " + used, used.size(), 0);
    }

    /** Objects are made where a field is made alone, so that no call makes one. */
    private static void objects(String code) {
        int made = 0;
        for (String line : code.split("\n")) {
            if (line.matches(".*\\bnew\\b.*")) {
                made++;
                boolean isField = line.matches(" +private final [\\w\\[\\]]+ \\w+ = new .*;") || line.matches(" +cells = new int\\[.*;");
                CHECK.due("a new one outside of a field: " + line.trim(), isField, true);
            }
        }
        CHECK.due("fields were looked at", made > 20, true);
    }

    private static void lengths(String source) {
        String[] lines = source.split("\n");
        int methods = 0;
        for (int i = 0; i < lines.length; i++) {
            Matcher head = Pattern.compile("( {4}| {8})\\S.*\\) \\{").matcher(lines[i]);
            if (head.matches()) {
                methods++;
                int end = i;
                while (end < lines.length && !lines[end].equals(head.group(1) + "}")) {
                    end++;
                }
                CHECK.due("some sixty lines: " + lines[i].trim() + " has " + (end - i + 1), end - i + 1 <= MOST_LINES, true);
            }
        }
        CHECK.due("methods were looked at", methods > 100, true);
        for (char c : source.toCharArray()) {
            if (c > 126) {
                CHECK.due("a sign above 126", c, 0);
            }
        }
    }
}
