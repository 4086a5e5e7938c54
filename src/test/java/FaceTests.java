import java.lang.reflect.Constructor;
import java.lang.reflect.Field;
import java.lang.reflect.Method;
import java.lang.reflect.Modifier;
import java.nio.file.Files;
import java.nio.file.Path;
import java.util.ArrayList;
import java.util.List;
import java.util.Map;
import java.util.Set;
import java.util.TreeMap;
import java.util.TreeSet;
import java.util.regex.Matcher;
import java.util.regex.Pattern;

/** The public face, to the letter, and rules of LANGUAGE.md that can be read off the class or its file. */
public final class FaceTests {
    private static final Set<String> METHODS = Set.of(
        "feed(int,long)", "town()", "fault()", "told(int)", "fact(int,int)", "person(int,int)", "closed(int)",
        "canKnow(int,int,int)", "sure(int,int,int)", "safe(int,int)", "odds(int,int,int)", "best(int,int)",
        "say(int,int,int,int)", "silent(int,int)", "morning()", "party(int)", "plan(int,int,int)", "hats(int)",
        "common(int,int,int)", "knew(int,int)", "bore()", "log(int,int)", "write(int,int,int)", "tear()", "judge()",
        "drift(int,int)", "seed(int)", "keep(int)", "goBack(int)");
    private static final Set<String> CONSTANTS = Set.of("NONE", "UNKNOWN", "OUTSIDE", "NOT", "FULL");
    private static final String[] RULED_OUT = {"throw", "throws", "try", "catch", "synchronized", "assert", "volatile",
        "native", "transient", "import", "package", "protected", "System.out", "->", "::", "Exact", ".values()"};

    /** What of the library is called; more of it is first looked up in LANGUAGE.md, rule 4. */
    private static final Set<String> LIBRARY = Set.of("System.arraycopy", "Long.bitCount", "Integer.bitCount",
        "Integer.numberOfTrailingZeros", "Math.abs");
    private static final int DEEPEST = 8;
    /** A line that opens a method or a constructor, of the class or of one inside. */
    private static final Pattern METHOD = Pattern.compile("(?: {4}| {8})(?!if\\b|for\\b|while\\b|switch\\b)(?:[\\w\\[\\]]+ )*(\\w+)\\(.*\\) \\{");

    private static int wrong = 0;

    public static void main(String[] args) throws Exception {
        face();
        documentsFace();
        classesInside();
        file(Files.readString(Path.of("src/main/java/UntoldFacts.java")));
        System.out.println("FaceTests: " + (wrong == 0 ? "all is as due" : wrong + " things are wrong"));
        if (wrong != 0) System.exit(1);
    }

    private static void due(String what, boolean holds) {
        if (!holds) {
            wrong++;
            System.out.println("not so: " + what);
        }
    }

    private static void face() {
        Class<?> c = UntoldFacts.class;
        due("public final", Modifier.isPublic(c.getModifiers()) && Modifier.isFinal(c.getModifiers()));
        Set<String> found = new TreeSet<>();
        for (Method m : c.getDeclaredMethods()) {
            if (Modifier.isPrivate(m.getModifiers()) || m.isSynthetic()) continue;
            due("public and of the object, int: " + m, Modifier.isPublic(m.getModifiers())
                && !Modifier.isStatic(m.getModifiers()) && m.getReturnType() == int.class);
            StringBuilder b = new StringBuilder();
            for (Class<?> p : m.getParameterTypes()) b.append(b.length() == 0 ? "" : ",").append(p.getName());
            found.add(m.getName() + "(" + b + ")");
        }
        due("methods " + found, found.equals(METHODS));
        Set<String> constants = new TreeSet<>();
        for (Field f : c.getDeclaredFields()) {
            if (Modifier.isPrivate(f.getModifiers())) continue;
            due("constant " + f, Modifier.isPublic(f.getModifiers()) && Modifier.isStatic(f.getModifiers())
                && Modifier.isFinal(f.getModifiers()) && f.getType() == int.class);
            constants.add(f.getName());
        }
        due("constants " + constants, constants.equals(CONSTANTS));
        Constructor<?>[] made = c.getDeclaredConstructors();
        due("one public constructor", made.length == 1 && Modifier.isPublic(made[0].getModifiers()) && made[0].getParameterCount() == 0);
    }

    /** Every line of the face in the document stands in the file, word by word. */
    private static void documentsFace() throws Exception {
        Path document = Path.of("../shared/DOC.md");
        if (!Files.isReadable(document)) return;
        String source = Files.readString(Path.of("src/main/java/UntoldFacts.java"));
        Matcher face = Pattern.compile("(?s)```java\n(.*?)```").matcher(Files.readString(document));
        due("a face in the document", face.find());
        int lines = 0;
        for (String line : face.group(1).split("\n")) {
            if (line.equals("}")) continue;
            String opened = line.endsWith(");") ? line.substring(0, line.length() - 1) + " {" : line;
            due("in the file: " + opened, source.contains(opened + "\n"));
            lines++;
        }
        due("lines of the face", lines == METHODS.size() + 3);
    }

    private static void classesInside() {
        Class<?>[] inside = UntoldFacts.class.getDeclaredClasses();
        due("some twelve classes", inside.length + 1 <= 12);
        check(UntoldFacts.class);
        for (Class<?> c : inside) {
            due("static and not public: " + c, Modifier.isStatic(c.getModifiers()) && !Modifier.isPublic(c.getModifiers()));
            check(c);
        }
    }

    private static void check(Class<?> c) {
        Set<String> names = new TreeSet<>();
        for (String m : METHODS) names.add(m.substring(0, m.indexOf('(')));
        for (Method m : c.getDeclaredMethods()) {
            due("seven parameters: " + m, m.getParameterCount() <= 7);
            due("a name of its own: " + m, c == UntoldFacts.class && !Modifier.isPrivate(m.getModifiers()) || !names.contains(m.getName()));
        }
        int fields = 0;
        for (Field f : c.getDeclaredFields()) {
            if (!Modifier.isStatic(f.getModifiers())) fields++;
            else due("static is final: " + f, Modifier.isFinal(f.getModifiers()));
        }
        due("some twenty fields: " + c, fields <= 20);
    }

    private static void file(String source) {
        String code = source.replaceAll("(?s)/\\*.*?\\*/", "").replaceAll("//[^\n]*", "");
        for (String word : RULED_OUT) {
            String edge = Character.isLetter(word.charAt(0)) ? "\\b" : "";
            Matcher m = Pattern.compile(edge + Pattern.quote(word)).matcher(code);
            due("without " + word, !m.find());
        }
        due("signs 1 to 126", source.chars().allMatch(ch -> ch == '\n' || ch >= 32 && ch < 127));
        String[] lines = code.split("\n", -1);
        shortMethods(lines);
        madeInConstructors(lines);
        libraryCalls(code);
        Map<String, String> bodies = bodies(lines);
        for (String name : bodies.keySet()) depth(bodies, name, new ArrayList<>());
    }

    /** All calls of one run live in one room: objects come from constructors and fields alone. */
    private static void madeInConstructors(String[] lines) {
        boolean making = false;
        for (String line : lines) {
            if (METHOD.matcher(line).matches()) making = line.contains(" UntoldFacts() {");
            boolean field = line.matches("        (private )?final [\\w\\[\\]]+ \\w+ = new .*;");
            due("an object made by a call: " + line, making || field || !line.matches(".*\\bnew\\b.*"));
        }
    }

    private static void libraryCalls(String code) {
        Matcher call = Pattern.compile("\\b(System|Long|Integer|Math|Arrays|String|Character|List)\\.\\w+").matcher(code);
        while (call.find()) due("of the library: " + call.group(), LIBRARY.contains(call.group()));
    }

    /** At a method's name its lines; like names (of unlike classes) are taken together. */
    private static Map<String, String> bodies(String[] lines) {
        Map<String, String> bodies = new TreeMap<>();
        String name = "";
        for (String line : lines) {
            Matcher head = METHOD.matcher(line);
            if (head.matches()) name = head.group(1);
            else bodies.merge(name, line + "\n", String::concat);
        }
        bodies.remove("");
        return bodies;
    }

    /** How deep the calls from a method go; what stands open already is recursion. */
    private static void depth(Map<String, String> bodies, String name, List<String> open) {
        open.add(name);
        due("calls go eight deep at most: " + open, open.size() <= DEEPEST);
        Set<String> called = new TreeSet<>();
        Matcher call = Pattern.compile("\\b(\\w+)\\(").matcher(bodies.get(name));
        while (call.find()) called.add(call.group(1));
        for (String next : called) {
            if (bodies.containsKey(next) && !open.contains(next)) depth(bodies, next, open);
        }
        open.remove(open.size() - 1);
    }

    /** From the line that opens a method to the one that closes it, by their indents. */
    private static void shortMethods(String[] lines) {
        int start = 0;
        for (int i = 0; i < lines.length; i++) {
            if (lines[i].matches("(    |        )[A-Za-z].*\\) \\{")) start = i;
            if (lines[i].matches("(    |        )\\}")) due("sixty lines at most, up to line " + i, i - start < 60 || start == 0);
        }
    }
}
