import java.lang.reflect.Method;
import java.lang.reflect.Modifier;
import java.nio.file.Files;
import java.nio.file.Path;
import java.util.ArrayList;
import java.util.List;
import java.util.Set;
import java.util.TreeSet;
import java.util.regex.Matcher;
import java.util.regex.Pattern;
import java.util.stream.Stream;

/** What README.md shows is so: each call answers as it says there, every call is shown, every test is named. */
public final class ReadmeTest {
    private static final Pattern MADE = Pattern.compile("NoneWithin x = new NoneWithin\\(\\);( *//.*)?");
    private static final Pattern CALL = Pattern.compile("x\\.(\\w+)\\(([^()]*)\\); *// (-?\\d+)(:.*)?");
    private static final Pattern CONSTANT = Pattern.compile("`(NONE|BAD|NO|FULL)` \\((-?\\d+)[:)]");
    private static final Pattern TYPED = Pattern.compile(": \"(.*)\"");

    public static void main(String[] args) throws Exception {
        List<String> lines = Files.readAllLines(Path.of("README.md"));
        Set<String> left = notShown(shownCalls(lines));
        Due.due("calls that README.md does not show: " + left, left.size(), 0);
        constants(String.join("\n", lines));
        testsAreNamed(lines);
        Due.due("README.md tells how the tests are run", String.join("\n", lines).contains("`bash .ci/run`") ? 1 : 0, 1);
        Due.due(".ci/run can be run", Files.isExecutable(Path.of(".ci/run")) ? 1 : 0, 1);
        Due.end("ReadmeTest");
    }

    /** Runs the blocks of Java, each with its own object; answers the names of the calls that they show. */
    private static Set<String> shownCalls(List<String> lines) throws Exception {
        Set<String> shown = new TreeSet<>();
        NoneWithin x = null;
        boolean inside = false;
        for (String line : lines) {
            if (line.startsWith("```")) {
                inside = line.equals("```java");
                x = null;
            } else if (inside && MADE.matcher(line).matches()) {
                x = new NoneWithin();
            } else if (inside && !line.isBlank()) {
                Matcher m = CALL.matcher(line);
                boolean asShown = x != null && m.matches();
                Due.due("README.md's line is a call of an object, with its answer: " + line, asShown ? 1 : 0, 1);
                if (asShown) {
                    Due.due("README.md: " + line, answer(x, m.group(1), m.group(2)), Long.parseLong(m.group(3)));
                    typedText(m);
                    shown.add(m.group(1));
                }
            }
        }
        return shown;
    }

    private static long answer(NoneWithin x, String name, String told) throws Exception {
        String[] words = told.isEmpty() ? new String[0] : told.split(", ");
        for (Method m : NoneWithin.class.getDeclaredMethods()) {
            if (Modifier.isPublic(m.getModifiers()) && m.getName().equals(name) && m.getParameterCount() == words.length) {
                Object[] numbers = new Object[words.length];
                for (int i = 0; i < words.length; i++) {
                    long v = number(words[i]);
                    boolean small = m.getParameterTypes()[i] == int.class;
                    Due.due(name + "(" + told + ") takes " + words[i], small && v != (int) v ? 0 : 1, 1);
                    numbers[i] = small ? (Object) (int) v : (Object) v;
                }
                return ((Number) m.invoke(x, numbers)).longValue();
            }
        }
        Due.due("there is a call " + name + " of " + words.length + " numbers", 0, 1);
        return Long.MIN_VALUE;
    }

    private static long number(String word) {
        String figures = word.endsWith("L") ? word.substring(0, word.length() - 1) : word;
        if (figures.startsWith("0b")) {
            return Long.parseLong(figures.substring(2), 2);
        }
        return Long.decode(figures);
    }

    /** The text that is told behind a type is the one that its number spells. */
    private static void typedText(Matcher call) {
        if (!call.group(1).equals("type") || call.group(4) == null) {
            return;
        }
        Matcher m = TYPED.matcher(call.group(4));
        Due.due("README.md tells the text of " + call.group(), m.matches() ? 1 : 0, 1);
        if (m.matches()) {
            long v = 0;
            for (char c : m.group(1).toCharArray()) {
                v = v << 8 | c;
            }
            String[] words = call.group(2).split(", ");
            Due.due("README.md's " + m.group(1) + " as a number", number(words[0]), v);
            Due.due("README.md's " + m.group(1) + " in bytes", number(words[1]), m.group(1).length());
        }
    }

    private static Set<String> notShown(Set<String> shown) {
        Set<String> left = new TreeSet<>();
        for (Method m : NoneWithin.class.getDeclaredMethods()) {
            if (Modifier.isPublic(m.getModifiers()) && !shown.contains(m.getName())) {
                left.add(m.getName());
            }
        }
        return left;
    }

    private static void constants(String readme) throws Exception {
        Set<String> told = new TreeSet<>();
        Matcher m = CONSTANT.matcher(readme);
        while (m.find()) {
            told.add(m.group(1));
            Due.due("README.md: " + m.group(), NoneWithin.class.getField(m.group(1)).getInt(null), Integer.parseInt(m.group(2)));
        }
        Due.due("constants that README.md tells", told.size(), 4);
    }

    private static void testsAreNamed(List<String> lines) throws Exception {
        Set<String> named = new TreeSet<>();
        for (String line : lines) {
            Matcher m = Pattern.compile("\\| `(\\w+)` \\|.*").matcher(line);
            if (m.matches()) {
                named.add(m.group(1));
            }
        }
        Set<String> there = new TreeSet<>();
        List<Path> files = new ArrayList<>();
        try (Stream<Path> all = Files.list(Path.of("src/test/java"))) {
            all.forEach(files::add);
        }
        for (Path file : files) {
            there.add(file.getFileName().toString().replace(".java", ""));
        }
        Due.due("README.md names " + named + ", there are " + there, named.equals(there) ? 1 : 0, 1);
    }
}
