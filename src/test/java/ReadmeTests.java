import java.lang.reflect.Method;
import java.nio.file.Files;
import java.nio.file.Path;
import java.util.ArrayList;
import java.util.List;
import java.util.Set;
import java.util.TreeSet;
import java.util.regex.Matcher;
import java.util.regex.Pattern;

/** README.md: each call that it shows, run in its order, answers what the row says. */
public final class ReadmeTests extends Check {
    private static final Pattern BLOCK = Pattern.compile("(?s)```java\n(.*?)```");
    private static final Pattern CALL = Pattern.compile("x\\.(\\w+)\\((.*)\\); +// (-?\\d+|[A-Z]+)(?:[:,] .*)?");
    private static final Pattern TEXT = Pattern.compile("feedAll\\(x, \"([^\"]*)\"(?:\\.repeat\\((\\d+)\\))?\\);");
    private static final String NEW = "UntoldFacts x = new UntoldFacts();";
    private static final String HELPER = "static void feedAll(";

    private static final Set<String> shown = new TreeSet<>();
    private static UntoldFacts x = null;

    public static void main(String[] args) throws Exception {
        String readme = Files.readString(Path.of("README.md"));
        int blocks = 0;
        for (Matcher m = BLOCK.matcher(readme); m.find(); blocks++) runBlock(m.group(1));
        about = "README.md";
        due("blocks of calls and the helper", blocks, 6);
        for (Method m : UntoldFacts.class.getDeclaredMethods()) {
            boolean seen = m.isSynthetic() || (m.getModifiers() & 1) == 0 || shown.contains(m.getName());
            holds("a row shows " + m.getName(), seen);
        }
        testsAreNamed(readme);
        end("ReadmeTests");
    }

    private static void runBlock(String block) throws Exception {
        if (block.startsWith(HELPER)) {
            about = "README.md, the helper";
            String helper = Files.readString(Path.of("src/test/java/Check.java"));
            holds("it is the one that the tests use", plain(helper).contains(plain(block)));
            return;
        }
        int calls = 0;
        for (String row : block.split("\n")) {
            about = "README.md, '" + row + "'";
            if (row.equals(NEW)) {
                x = new UntoldFacts();
                calls = 0;
            } else {
                calls += runRow(row);
            }
        }
        holds("512 calls at most", calls <= 512);
    }

    private static String plain(String code) {
        return code.replaceAll("\\s+", " ").trim();
    }

    /** How many calls it made. */
    private static int runRow(String row) throws Exception {
        Matcher text = TEXT.matcher(row);
        if (text.matches()) {
            String whole = text.group(1).repeat(text.group(2) == null ? 1 : Integer.parseInt(text.group(2)));
            int had = x.told(3);
            feedAll(x, whole);
            due("bytes of the text", x.told(3), had + whole.length());
            return (whole.length() + 7) / 8;
        }
        Matcher call = CALL.matcher(row);
        if (!call.matches()) {
            holds("a row that can be run", false);
            return 0;
        }
        shown.add(call.group(1));
        due(call.group(1), answer(call.group(1), call.group(2)), number(call.group(3)));
        return 1;
    }

    private static int answer(String name, String arguments) throws Exception {
        List<Class<?>> types = new ArrayList<>();
        List<Object> values = new ArrayList<>();
        for (String word : arguments.isEmpty() ? new String[0] : arguments.split(", ")) {
            boolean wide = name.equals("feed") && types.size() == 1;
            types.add(wide ? long.class : int.class);
            if (wide) values.add(number(word));
            else values.add((int) number(word));
        }
        Method m = UntoldFacts.class.getMethod(name, types.toArray(new Class<?>[0]));
        return (Integer) m.invoke(x, values.toArray());
    }

    private static long number(String word) throws Exception {
        String name = word.startsWith("UntoldFacts.") ? word.substring("UntoldFacts.".length()) : word;
        if (name.matches("[A-Z]+")) return UntoldFacts.class.getField(name).getInt(null);
        return Long.decode(name.endsWith("L") ? name.substring(0, name.length() - 1) : name);
    }

    /** Who adds a test tells it there. */
    private static void testsAreNamed(String readme) throws Exception {
        holds(".ci/run", readme.contains("`bash .ci/run`"));
        try (var files = Files.list(Path.of("src/test/java"))) {
            for (Path file : files.toList()) {
                String name = file.getFileName().toString().replace(".java", "");
                holds("it names " + name, readme.contains("`" + name + "`"));
            }
        }
        for (String name : new String[] {"UNKNOWN", "OUTSIDE", "NOT", "FULL"}) {
            String row = "| `" + name + "` | " + UntoldFacts.class.getField(name).getInt(null) + " |";
            holds("it tells " + row, readme.contains(row));
        }
    }
}
