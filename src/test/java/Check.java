import java.io.IOException;
import java.nio.file.Files;
import java.nio.file.Path;
import java.util.ArrayList;
import java.util.List;

/** What the tests share: towns, calls with the answers that are due, and all that can be seen of an object. */
class Check {
    static final int NONE = -1, UNKNOWN = -1000000001, OUTSIDE = -1000000002, NOT = -1000000003, FULL = -1000000004;
    static final int LOW = Integer.MIN_VALUE, HIGH = Integer.MAX_VALUE;

    /**
     * CLOSED SETS by HAT: 0 {0, 13}, 1 {1, 14}, 2 {2, 8, 15}, 3 {9}, 4 {4, 10}, 5 {5, 11}, 6 {6, 12}.
     * PERSONS know 5, 2, 0, 11; HATS 5, 2, 0, 5.
     */
    static final String SEVEN = "hats 7;fact 1;fact 2;fact 4;fact 9 follows 0,1;"
        + "person knows 0,2;person knows 1;person;person knows 0,1;";
    /** Each SET has a HAT of its own: PERSONS know 7, 56, 0, and see it. */
    static final String PLAIN = "hats 99;fact 1;fact 2;fact 4;fact 8;fact 16;fact 32;"
        + "person knows 0,1,2;person knows 3,4,5;person;";
    /** HATS: 0 {0, 3}, 1 {1, 2}; PERSONS know 3, 0, 1. */
    static final String TWO = "hats 2;fact 1;fact 1;person knows 0,1;person;person knows 0;";
    /** One FACT, each SET has a HAT of its own: PERSONS know 1, 1, 0. */
    static final String ONE = "hats 99;fact 1;person knows 0;person knows 0;person;";
    /** All 64 SETS have HAT 0. */
    static final String BLIND = "hats 2;fact 2;fact 2;fact 2;fact 2;fact 2;fact 2;person;person;";

    static int wrong = 0;
    /** What is tested now: a promise, a sentence of the document. */
    static String about = "";
    private static String document = null;

    static void due(String call, long got, long want) {
        if (got != want) {
            wrong++;
            System.out.println(about + ": " + call + " answered " + got + ", due is " + want);
        }
    }

    static void holds(String what, boolean so) {
        due(what, so ? 1 : 0, 1);
    }

    /** A test of one sentence of the document, which must stand there word by word. */
    static void sentence(String words, Runnable test) {
        about = "'" + words + "'";
        holds("the sentence stands in the document", document().isEmpty() || document().contains(words));
        try {
            test.run();
        } catch (RuntimeException thrown) {
            wrong++;
            System.out.println(about + ": a call threw " + thrown);
        }
    }

    /** The document's words, lines and blanks being alike; empty where the document is not at hand. */
    private static String document() {
        if (document == null) {
            try {
                document = Files.readString(Path.of("../shared/DOC.md")).replaceAll("\\s+", " ");
            } catch (IOException missing) {
                document = "";
                System.out.println("../shared/DOC.md cannot be read: sentences are not looked up");
            }
        }
        return document;
    }

    static void end(String name) {
        System.out.println(name + ": " + (wrong == 0 ? "all answers are as due" : wrong + " answers are not as due"));
        if (wrong != 0) System.exit(1);
    }

    // ---- towns

    static void feedAll(UntoldFacts x, String text) {
        for (int at = 0; at < text.length(); at += 8) {
            int n = Math.min(8, text.length() - at);
            long bytes = 0;
            for (int k = 0; k < n; k++) bytes = bytes << 8 | text.charAt(at + k);
            x.feed(n, bytes);
        }
    }

    static UntoldFacts told(String text) {
        UntoldFacts x = new UntoldFacts();
        feedAll(x, text);
        due("a fault in '" + text + "'", x.town() < 0 ? 1 : 0, 0);
        return x;
    }

    /** A text on a new object: what town() answers, and fault(). */
    static UntoldFacts read(String text, int answer, int at) {
        UntoldFacts x = new UntoldFacts();
        feedAll(x, text);
        due("told(3) of '" + text + "'", x.told(3), text.length());
        due("town() of '" + text + "'", x.town(), answer);
        due("fault() of '" + text + "'", x.fault(), at);
        due("told(3) behind '" + text + "'", x.told(3), 0);
        return x;
    }

    /** A text without a fault. */
    static UntoldFacts good(String text, int persons) {
        return read(text, persons, NONE);
    }

    /** A text with a fault: on an object that has no town, none comes. */
    static void bad(String text, int number, int at) {
        UntoldFacts x = read(text, -10 - number, at);
        due("told(0) behind '" + text + "'", x.told(0), 0);
        due("told(1) behind '" + text + "'", x.told(1), 0);
        due("told(2) behind '" + text + "'", x.told(2), 10);
    }

    // ---- what can be seen

    /** What can be seen of an object without changing it, but for IMAGES. */
    static List<Integer> sight(UntoldFacts x) {
        List<Integer> all = new ArrayList<>();
        for (int w = 0; w < 7; w++) all.add(x.told(w));
        int facts = all.get(0), persons = all.get(1), logged = all.get(4);
        all.add(x.fault());
        all.add(x.judge());
        for (int f = 0; f < facts; f++) for (int w = 0; w < 3; w++) all.add(x.fact(f, w));
        for (int p = 0; p < persons; p++) {
            for (int w = 0; w < 4; w++) all.add(x.person(p, w));
            for (int q = 0; q < persons; q++) if (p != q) addSets(all, x, p, q);
        }
        for (int i = 0; i < logged; i++) for (int w = 0; w < 5; w++) all.add(x.log(i, w));
        int seed = x.seed(0);
        x.seed(seed);
        all.add(seed);
        return all;
    }

    private static void addSets(List<Integer> all, UntoldFacts x, int p, int q) {
        int n = x.canKnow(p, q, NONE);
        all.add(n);
        for (int i = 0; i < n; i++) all.add(x.canKnow(p, q, i));
    }

    /** All of an object, IMAGES and THE TEXT too; it is not as it was then. */
    static List<Integer> wholeSight(UntoldFacts x) {
        List<Integer> all = sight(x);
        for (int i = 0; i < 2; i++) {
            int back = x.goBack(i);
            all.add(back);
            if (back == 1) all.addAll(sight(x));
        }
        all.add(x.tear());
        all.add(x.town());
        all.add(x.fault());
        all.addAll(sight(x));
        return all;
    }

    /** Calls on an object. */
    interface Calls {
        void on(UntoldFacts x);
    }

    /** Calls that are refused: behind them the object is what one is that never had them. */
    static void unchanged(String town, Calls before, Calls refused) {
        UntoldFacts x = told(town);
        UntoldFacts y = told(town);
        before.on(x);
        before.on(y);
        refused.on(x);
        List<Integer> got = wholeSight(x);
        List<Integer> want = wholeSight(y);
        holds("all is as it was: " + got + ", due is " + want, got.equals(want));
    }

    /** Calls that change nothing that can be seen, but for IMAGES. */
    static void refused(UntoldFacts x, Calls calls) {
        List<Integer> before = sight(x);
        calls.on(x);
        List<Integer> after = sight(x);
        holds("what is so after refusals " + before + " " + after, before.equals(after));
    }

    static void canKnowIs(UntoldFacts x, int p, int q, int... sets) {
        due("canKnow(" + p + ", " + q + ", NONE)", x.canKnow(p, q, NONE), sets.length);
        for (int i = 0; i < sets.length; i++) due("canKnow(" + p + ", " + q + ", " + i + ")", x.canKnow(p, q, i), sets[i]);
        due("canKnow(" + p + ", " + q + ", " + sets.length + ")", x.canKnow(p, q, sets.length), NONE);
    }

    static void knewIs(UntoldFacts x, int q, int... sets) {
        due("knew(" + q + ", NONE)", x.knew(q, NONE), sets.length);
        for (int i = 0; i < sets.length; i++) due("knew(" + q + ", " + i + ")", x.knew(q, i), sets[i]);
        due("knew(" + q + ", " + sets.length + ")", x.knew(q, sets.length), NONE);
    }

    /** Parts: who says the first, its FACT, who says the second, and on. */
    static void planIs(UntoldFacts x, int a, int b, int... parts) {
        due("plan(" + a + ", " + b + ", NONE)", x.plan(a, b, NONE), parts.length / 2);
        for (int i = 0; i < parts.length; i++) due("plan(" + a + ", " + b + ", " + i + ")", x.plan(a, b, i), parts[i]);
        due("plan(" + a + ", " + b + ", " + parts.length + ")", x.plan(a, b, parts.length), NONE);
    }

    static void noPlan(UntoldFacts x, int a, int b) {
        for (int i = -1; i < 13; i++) due("plan(" + a + ", " + b + ", " + i + "), there is none", x.plan(a, b, i), NONE);
    }

    static void logIs(UntoldFacts x, int i, int... entry) {
        for (int w = 0; w < 5; w++) due("log(" + i + ", " + w + ")", x.log(i, w), entry[w]);
    }

    static void knownIs(UntoldFacts x, int... sets) {
        for (int p = 0; p < sets.length; p++) due("person(" + p + ", 0)", x.person(p, 0), sets[p]);
    }

    static void hatsAre(UntoldFacts x, int... hats) {
        for (int p = 0; p < hats.length; p++) due("person(" + p + ", 1)", x.person(p, 1), hats[p]);
    }
}
