import java.lang.reflect.Constructor;
import java.lang.reflect.Field;
import java.lang.reflect.Method;
import java.lang.reflect.Modifier;
import java.nio.file.Files;
import java.nio.file.Path;
import java.util.ArrayList;
import java.util.Arrays;
import java.util.List;
import java.util.Map;
import java.util.Set;
import java.util.TreeMap;
import java.util.TreeSet;
import java.util.regex.Matcher;
import java.util.regex.Pattern;

/** The document's face, and those rules of LANGUAGE.md that can be seen by their words. */
public final class LanguageTest {
    private static final String[] FACE = {
        "int sorts(int)", "int sizes(int,int)", "int box(int,int)", "int pop()", "int told(int,int)",
        "int type(long,int)", "int clear()", "int read()", "int judge(int,int)", "int fullness()",
        "int kept(int,int,int)", "int rows(int)", "int opens(int,int)", "int alone()", "int row(int,int)",
        "int more(int)", "int lists(int,int)", "int game(int,int)", "int chance(int)", "long greatest(int)",
        "long shared(int,int)", "int several(int,int)", "long things(int)", "int middle(int)", "long part(int)",
        "int image(int)", "int from(int)", "int status(int)", "int count(int)", "long digest()"};
    private static final String[] NOT_USED = {
        "throw", "throws", "try", "catch", "finally", "synchronized", "assert", "volatile", "transient", "native",
        "package", "double", "float", "Object", "var", "Integer\\.(?!bitCount|lowestOneBit|highestOneBit|numberOfTrailingZeros)\\w+",
        "Long", "Math\\.\\w+Exact", "Math\\.(?!min|max)\\w+", "System\\.(?!arraycopy)\\w+", "Arrays\\.(?!fill)\\w+",
        "protected", "toString", "hashCode", "Thread", "Random"};

    public static void main(String[] args) throws Exception {
        face();
        members();
        words(code());
        fieldsAndTexts(code());
        bodiesAreFound(bodies(code()));
        depths(bodies(code()));
        Due.end("LanguageTest");
    }

    private static String signature(Method m) {
        List<String> kinds = new ArrayList<>();
        for (Class<?> c : m.getParameterTypes()) {
            kinds.add(c.getSimpleName());
        }
        return m.getReturnType().getSimpleName() + " " + m.getName() + "(" + String.join(",", kinds) + ")";
    }

    private static void face() {
        Set<String> there = new TreeSet<>();
        for (Method m : NoneWithin.class.getDeclaredMethods()) {
            if (!Modifier.isPrivate(m.getModifiers())) {
                there.add(signature(m));
                Due.due(m.getName() + " is public and the object's", m.getModifiers(), Modifier.PUBLIC);
            }
        }
        Set<String> told = new TreeSet<>(Arrays.asList(FACE));
        if (!there.equals(told)) {
            System.out.println("the face is " + there);
        }
        Due.due("the face is the document's", there.equals(told) ? 1 : 0, 1);
        Constructor<?>[] made = NoneWithin.class.getDeclaredConstructors();
        Due.due("constructors", made.length, 1);
        Due.due("the constructor is public", made[0].getModifiers(), Modifier.PUBLIC);
        Due.due("the class is public and final", NoneWithin.class.getModifiers(), Modifier.PUBLIC | Modifier.FINAL);
    }

    private static void members() {
        Set<String> publicOnes = new TreeSet<>();
        for (Method m : NoneWithin.class.getMethods()) {
            publicOnes.add(m.getName());
        }
        List<Class<?>> all = new ArrayList<>(Arrays.asList(NoneWithin.class.getDeclaredClasses()));
        Due.due("no more than twelve classes", all.size() <= 11 ? 1 : 0, 1);
        for (Class<?> c : all) {
            Due.due(c + " is static", Modifier.isStatic(c.getModifiers()) ? 1 : 0, 1);
            Due.due(c + " is not public", Modifier.isPublic(c.getModifiers()) ? 1 : 0, 0);
        }
        all.add(NoneWithin.class);
        for (Class<?> c : all) {
            for (Method m : c.getDeclaredMethods()) {
                boolean taken = !Modifier.isPublic(m.getModifiers()) && publicOnes.contains(m.getName());
                Due.due(m + " bears a public one's name", taken ? 1 : 0, 0);
                Due.due(m + " takes seven at most", m.getParameterCount() <= 7 ? 1 : 0, 1);
            }
            int own = 0;
            for (Field f : c.getDeclaredFields()) {
                boolean isStatic = Modifier.isStatic(f.getModifiers());
                own += isStatic ? 0 : 1;
                Due.due(f + " static is final", isStatic && !Modifier.isFinal(f.getModifiers()) ? 1 : 0, 0);
                boolean shown = c == NoneWithin.class && !Modifier.isPrivate(f.getModifiers());
                boolean constant = Set.of("NONE", "BAD", "NO", "FULL").contains(f.getName());
                Due.due(f + " is seen", shown ? 1 : 0, constant ? 1 : 0);
            }
            Due.due(c + " has some twenty fields at most", own <= 20 ? 1 : 0, 1);
        }
    }

    /** The source without comments and texts. */
    private static String code() throws Exception {
        String source = Files.readString(Path.of("src/main/java/NoneWithin.java"));
        return source.replaceAll("(?s)/\\*.*?\\*/", " ").replaceAll("//[^\n]*", " ").replaceAll("\"[^\"\n]*\"", "\"\"");
    }

    /** Rules 3, 4, 5 and 10, as far as they can be seen so. */
    private static void fieldsAndTexts(String code) {
        List<Class<?>> all = new ArrayList<>(Arrays.asList(NoneWithin.class.getDeclaredClasses()));
        all.add(NoneWithin.class);
        Set<String> kinds = Set.of("int", "long", "boolean", "char", "String", "int[]", "long[]", "char[]", "byte[]");
        for (Class<?> c : all) {
            for (Field f : c.getDeclaredFields()) {
                if (Modifier.isStatic(f.getModifiers())) {
                    Due.due(f + " is of a kind that may be static", kinds.contains(f.getType().getSimpleName()) ? 1 : 0, 1);
                }
            }
        }
        Due.due("static block", Pattern.compile("\\bstatic\\s*\\{").matcher(code).find() ? 1 : 0, 0);
        Due.due("texts joined by +", Pattern.compile("\"\\s*\\+|\\+\\s*\"").matcher(code).find() ? 1 : 0, 0);
        Due.due("signs beyond 127", code.chars().allMatch(sign -> sign < 128) ? 1 : 0, 1);
        Due.due("rows of rows", code.contains("[][]") ? 1 : 0, 0);
    }

    private static void words(String code) {
        for (String word : NOT_USED) {
            Matcher m = Pattern.compile("\\b" + word + "\\b").matcher(code);
            Due.due(word + " is used", m.find() ? 1 : 0, 0);
        }
        Due.due("lambda", code.contains("->") ? 1 : 0, 0);
        Due.due("method reference", code.contains("::") ? 1 : 0, 0);
        Matcher m = Pattern.compile("import ([^;]*);").matcher(code);
        while (m.find()) {
            Due.due("import " + m.group(1), m.group(1).equals("java.util.Arrays") ? 1 : 0, 1);
        }
        // Rows are made with the object and used again: no call makes anything.
        m = Pattern.compile("(?m)^.*\\bnew\\b.*$").matcher(code);
        while (m.find()) {
            boolean kept = m.group().contains("final") || m.group().trim().equals("images[i] = new Image();");
            Due.due("made in a call: " + m.group().trim(), kept ? 1 : 0, 1);
        }
        int begun = -1;
        String[] lines = code.split("\n");
        for (int i = 0; i < lines.length; i++) {
            if (lines[i].matches("( {4}| {8})(public|private|static|int|void|boolean|long|[A-Z]).*\\) \\{\\s*")) {
                begun = i;
            }
            if (lines[i].matches("( {4}| {8})\\}\\s*") && begun >= 0) {
                Due.due("lines of" + lines[begun], i - begun < 60 ? 1 : 0, 1);
                begun = -1;
            }
        }
    }

    /** The methods by their names; those of one name are taken together, so a depth is never told too low. */
    private static Map<String, String> bodies(String code) {
        Map<String, String> found = new TreeMap<>();
        Pattern head = Pattern.compile("( {4}| {8})(?:[a-z]+ )*(?:[A-Za-z\\[\\]]+ )?(\\w+)\\([^()]*\\) \\{\\s*");
        String name = null;
        String indent = "";
        for (String line : code.split("\n")) {
            Matcher m = head.matcher(line);
            if (name == null && m.matches()) {
                indent = m.group(1);
                name = m.group(2);
                found.merge(name, "", String::concat);
            } else if (name != null && line.stripTrailing().equals(indent + "}")) {
                name = null;
            } else if (name != null) {
                found.merge(name, line + "\n", String::concat);
            }
        }
        return found;
    }

    private static void bodiesAreFound(Map<String, String> bodies) {
        List<Class<?>> all = new ArrayList<>(Arrays.asList(NoneWithin.class.getDeclaredClasses()));
        all.add(NoneWithin.class);
        for (Class<?> c : all) {
            for (Method m : c.getDeclaredMethods()) {
                Due.due("the body of " + m + " was found", bodies.containsKey(m.getName()) ? 1 : 0, 1);
            }
        }
    }

    /** Rule 11: calls that are no recursion go at most eight deep; rule 8: what calls itself is known here. */
    private static void depths(Map<String, String> bodies) {
        Set<String> recursive = Set.of("search", "walk", "wins", "partsFrom");
        Map<String, Set<String>> calls = new TreeMap<>();
        for (String name : bodies.keySet()) {
            Set<String> called = new TreeSet<>();
            Matcher m = Pattern.compile("\\b(\\w+)\\(").matcher(bodies.get(name));
            while (m.find()) {
                if (bodies.containsKey(m.group(1))) {
                    called.add(m.group(1));
                }
            }
            Due.due(name + " calls itself", called.remove(name) ? 1 : 0, recursive.contains(name) ? 1 : 0);
            calls.put(name, called);
        }
        for (String told : FACE) {
            String name = told.replaceAll(".* |\\(.*", "");
            int depth = depth(name, calls, 0);
            Due.due("calls of " + name + " go " + depth + " deep, at most eight", depth <= 8 ? 1 : 0, 1);
        }
    }

    /** Twenty are told where methods call one another in a ring. */
    private static int depth(String name, Map<String, Set<String>> calls, int above) {
        int most = 0;
        for (String called : calls.getOrDefault(name, Set.of())) {
            most = Math.max(most, above < 20 ? depth(called, calls, above + 1) : 0);
        }
        return most + 1;
    }
}
