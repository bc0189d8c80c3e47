import java.io.IOException;
import java.lang.reflect.InvocationTargetException;
import java.lang.reflect.Method;
import java.lang.reflect.Modifier;
import java.nio.file.Files;
import java.nio.file.Path;
import java.util.ArrayList;
import java.util.List;
import java.util.Set;
import java.util.TreeSet;
import java.util.regex.Matcher;
import java.util.regex.Pattern;
import java.util.stream.Collectors;
import java.util.stream.Stream;

/**
 * Makes the calls that README.md shows, in the order of the page, and holds the answers that it shows behind them; so,
 * too, the FAULTS of its table, the helper that feeds a text, and the names of the tests. It is run from the project's
 * folder.
 */
public final class ReadmeTest {
    private static final Check CHECK = new Check();
    private static final Pattern MADE = Pattern.compile("NoonRinger x = new NoonRinger\\(\\);");
    private static final Pattern FED = Pattern.compile("feedText\\(x, \"([^\"]*)\"\\);");
    private static final Pattern ASKED = Pattern.compile(
        "x\\.(\\w+)\\(([^)]*)\\); *// (-?\\d+|true|false)(?:: (.*)|)");
    private static final Pattern FAULT = Pattern.compile("\\| (\\d) \\| [A-Z]+ \\| [^|]+ \\| `([^`|]*)` \\| (\\d+) \\|");
    private static final int MOST_CALLS = 512;

    private final List<String> lines;
    private final Set<String> shown = new TreeSet<>();
    private final Set<String> faults = new TreeSet<>();
    private NoonRinger x;
    private int calls;
    private int helpers;

    private ReadmeTest(List<String> lines) {
        this.lines = lines;
    }

    public static void main(String[] args) throws IOException, ReflectiveOperationException {
        ReadmeTest test = new ReadmeTest(Files.readAllLines(Path.of("README.md")));
        test.blocks();
        test.table();
        test.names();
        texts();
        CHECK.end();
    }

    // ---- What README.md shows as a text is fed, to the letter ----

    static void feedText(NoonRinger x, String text) {
        int blanks = (20 - text.length() % 20) % 20;
        String all = text + " ".repeat(blanks);
        for (int i = 0; i < all.length(); i += 20) {
            x.feed(four(all, i), four(all, i + 4), four(all, i + 8), four(all, i + 12), four(all, i + 16));
        }
        x.back(blanks);
    }

    static int four(String text, int i) {
        return text.charAt(i) << 24 | text.charAt(i + 1) << 16 | text.charAt(i + 2) << 8 | text.charAt(i + 3);
    }

    /** Texts of all lengths about twenty and 2,000, with signs of more than seven bits, come as they are. */
    private static void texts() {
        for (int length : new int[] {0, 1, 3, 4, 5, 19, 20, 21, 39, 40, 41, 1980, 1981, 1999, 2000}) {
            NoonRinger x = new NoonRinger();
            feedText(x, " ".repeat(length));
            CHECK.due("count(8) of " + length + " blanks", x.count(8), length);
            CHECK.due("read() of " + length + " blanks", x.read(), 0);
            if (length > 0) {
                feedText(x, " ".repeat(length - 1) + "\u00ff");
                CHECK.due("count(8) of " + length + " bytes", x.count(8), length);
                CHECK.due("read() of " + length + " bytes", x.read(), 1);
                CHECK.due("place() of " + length + " bytes", x.place(), length - 1);
            }
        }
    }

    // ---- Calls and their answers ----

    private void blocks() throws IOException, ReflectiveOperationException {
        for (int i = 0; i < lines.size(); i++) {
            if (lines.get(i).equals("```java")) {
                List<String> block = new ArrayList<>();
                for (i++; i < lines.size() && !lines.get(i).equals("```"); i++) {
                    block.add(lines.get(i));
                }
                if (!block.isEmpty() && block.get(0).startsWith("static ")) {
                    helper(block);
                } else {
                    for (String line : block) {
                        make(line);
                    }
                }
            }
        }
        CHECK.due("helpers that are shown", helpers, 1);
        for (Method m : NoonRinger.class.getDeclaredMethods()) {
            boolean isOpen = Modifier.isPublic(m.getModifiers());
            CHECK.due("README.md shows " + m.getName(), !isOpen || shown.contains(m.getName()), true);
        }
    }

    /** What cannot be compiled out of the page is held to what this test is compiled from. */
    private void helper(List<String> block) throws IOException {
        helpers++;
        String due = block.stream().map(line -> line.isEmpty() ? line : "    " + line).collect(Collectors.joining("\n"));
        String source = Files.readString(Path.of("src/test/java/ReadmeTest.java"));
        CHECK.due("the helper stands in ReadmeTest.java", source.contains("\n" + due + "\n"), true);
    }

    private void make(String line) throws ReflectiveOperationException {
        Matcher fed = FED.matcher(line);
        Matcher asked = ASKED.matcher(line);
        if (MADE.matcher(line).matches()) {
            x = new NoonRinger();
            calls = 0;
        } else if (x == null) {
            CHECK.due("an object ahead of " + line, 0, 1);
        } else if (fed.matches()) {
            feedText(x, fed.group(1));
            calls += fed.group(1).length() / 20 + 2;
        } else if (asked.matches()) {
            ask(line, asked.group(1), asked.group(2), asked.group(3));
            if (asked.group(1).equals("feed")) {
                CHECK.due("the bytes of " + line, "\"" + textOf(asked.group(2)) + "\"", "" + asked.group(4));
            }
        } else {
            CHECK.due("a line that is a call with an answer, not " + line, 0, 1);
        }
        CHECK.due("calls that are promised, at " + line, calls <= MOST_CALLS, true);
    }

    private void ask(String line, String name, String told, String due) throws ReflectiveOperationException {
        String[] parts = told.isEmpty() ? new String[0] : told.split(", ");
        Object[] parameters = new Object[parts.length];
        for (int i = 0; i < parts.length; i++) {
            boolean isTruth = parts[i].equals("true") || parts[i].equals("false");
            parameters[i] = isTruth ? (Object) Boolean.valueOf(parts[i]) : Integer.decode(parts[i]);
        }
        calls++;
        shown.add(name);
        String got = "no such call";
        for (Method m : NoonRinger.class.getMethods()) {
            if (m.getName().equals(name) && m.getParameterCount() == parts.length) {
                try {
                    got = "" + m.invoke(x, parameters);
                } catch (IllegalArgumentException e) {
                    got = "no such parameters";
                } catch (InvocationTargetException e) {
                    got = "" + e.getCause();
                }
            }
        }
        CHECK.due(line, got, due);
    }

    private static String textOf(String fours) {
        StringBuilder text = new StringBuilder();
        for (String four : fours.split(", ")) {
            for (int shift = 24; shift >= 0; shift -= 8) {
                text.append((char) (Integer.decode(four) >>> shift & 255));
            }
        }
        return text.toString();
    }

    // ---- The table of FAULTS, the names of the tests ----

    private void table() {
        for (String line : lines) {
            Matcher fault = FAULT.matcher(line);
            if (fault.matches()) {
                faults.add(fault.group(1));
                NoonRinger fresh = new NoonRinger();
                feedText(fresh, fault.group(2));
                CHECK.due("read() of " + line, fresh.read(), Integer.parseInt(fault.group(1)));
                CHECK.due("place() of " + line, fresh.place(), Integer.parseInt(fault.group(3)));
            } else {
                CHECK.due("a row of a FAULT, not " + line, line.matches("\\| \\d.*"), false);
            }
        }
        CHECK.due("FAULTS that are shown", "" + faults, "[1, 2, 3, 4, 5]");
    }

    private void names() throws IOException {
        String page = String.join("\n", lines);
        Set<String> named = new TreeSet<>();
        Matcher name = Pattern.compile("\\b\\w+Test\\b").matcher(page);
        while (name.find()) {
            named.add(name.group());
        }
        try (Stream<Path> files = Files.list(Path.of("src/test/java"))) {
            String tests = files.map(file -> file.getFileName().toString()).filter(file -> file.endsWith("Test.java"))
                .map(file -> file.replace(".java", "")).sorted().collect(Collectors.joining(", "));
            CHECK.due("the tests that are named", String.join(", ", named), tests);
        }
        CHECK.due("how all tests are run", page.contains("\n```sh\n.ci/run\n```\n"), true);
        CHECK.due(".ci/run can be run", Files.isExecutable(Path.of(".ci/run")), true);
    }
}
