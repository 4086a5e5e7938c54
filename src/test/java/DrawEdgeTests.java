import java.math.BigInteger;
import java.util.List;

/** Draws and images: the boundary cases of section 3 and of promises 27 to 30. */
public final class DrawEdgeTests extends Check {
    /** All know the one FACT: each who is drawn says it. */
    private static final String KNOWERS = "hats 99;fact 1;" + "person knows 0;".repeat(5);

    public static void main(String[] args) {
        sentence("THE SEED (0 at first", DrawEdgeTests::atFirst);
        sentence("each DRAW it becomes it times 1103515245 and 12345, left over by 2 to the 31", DrawEdgeTests::leftOver);
        sentence("the DRAW of n is it / 65536, left over by n", DrawEdgeTests::speakersAndHearers);
        sentence("speaker by a DRAW of PERSONS, hearer by a DRAW of the others (rising)", DrawEdgeTests::others);
        sentence("it says its BEST SAYING, if the ODDS are q or more, else it is SILENT", DrawEdgeTests::oddsOrMore);
        sentence("(so also with NONE)", DrawEdgeTests::alsoWithNone);
        sentence("(so also with NONE); nobody LISTENS.", DrawEdgeTests::nobodyListens);
        sentence("n times (1 .. 99) BY DRAWS (q 0 .. 1000000): INSULTS in these.", DrawEdgeTests::driftBounds);
        sentence("OUTSIDE, NOT: fewer than two PERSONS.", DrawEdgeTests::driftRefusals);
        sentence("THE SEED becomes v (0 .. 2147483647): what it was. OUTSIDE.", DrawEdgeTests::seedCall);
        sentence("IMAGES 0, 1 keep what is known, HATS, CAN KNOW, THE LOG, INSULTS, THE SEED.", DrawEdgeTests::imagesKeep);
        sentence("IMAGES 0, 1 keep what is known, HATS, CAN KNOW, THE LOG", DrawEdgeTests::imagesKeepAllOfTheLog);
        sentence("IMAGE i becomes what is so: 1. UNKNOWN.", DrawEdgeTests::keepCall);
        sentence("What is so becomes IMAGE i: 1. UNKNOWN, NOT: it was not kept.", DrawEdgeTests::goBackCall);
        end("DrawEdgeTests");
    }

    /** The next SEED by numbers of any size. */
    private static int next(int seed) {
        BigInteger it = BigInteger.valueOf(seed).multiply(BigInteger.valueOf(1103515245L)).add(BigInteger.valueOf(12345L));
        return it.mod(BigInteger.ONE.shiftLeft(31)).intValueExact();
    }

    private static String knowers(int n) {
        return "hats 99;fact 1;" + "person knows 0;".repeat(n);
    }

    private static void atFirst() {
        UntoldFacts x = told("person;person;");
        due("seed(5)", x.seed(5), 0);
        UntoldFacts y = told("person;person;");
        due("drift(1, 0)", y.drift(1, 0), 0);
        due("seed(0), two DRAWS from 0: 12345 and the next", y.seed(0), 1406932606);
        due("seed of a new object", new UntoldFacts().seed(1), 0);
    }

    private static void leftOver() {
        for (int v : new int[] {0, 1, 2, 65535, 65536, 12345, 1406932606, 1 << 30, HIGH - 1, HIGH}) {
            UntoldFacts x = told("person;person;");
            x.seed(v);
            due("drift(1, 0) from " + v, x.drift(1, 0), 0);
            int seed = next(next(v));
            due("seed behind two DRAWS from " + v, x.seed(seed), seed);
            due("drift(99, 0) from " + seed, x.drift(99, 0), 0);
            for (int k = 0; k < 198; k++) seed = next(seed);
            due("seed behind 198 DRAWS more", x.seed(0), seed);
            holds("never below 0", seed >= 0);
        }
    }

    private static void speakersAndHearers() {
        for (int n = 2; n <= 5; n++) {
            for (int v : new int[] {0, HIGH, 65536 * n - 1}) {
                UntoldFacts x = told(knowers(n));
                x.seed(v);
                due("drift(20, 0)", x.drift(20, 0), 20);
                int seed = v;
                for (int k = 0; k < 20; k++) {
                    seed = next(seed);
                    int a = seed / 65536 % n;
                    seed = next(seed);
                    int b = seed / 65536 % (n - 1);
                    logIs(x, k, a, b < a ? b : b + 1, 0, 0, 1);
                }
                due("seed behind 40 DRAWS", x.seed(0), seed);
            }
        }
    }

    /** Of five, each can be drawn to speak and to hear; nobody speaks to itself. */
    private static void others() {
        int[][] count = new int[5][5];
        for (int v = 0; v < 8; v++) {
            UntoldFacts x = told(KNOWERS);
            x.seed(v * 268435455);
            due("drift(60, 0)", x.drift(60, 0), 60);
            for (int i = 0; i < 60; i++) count[x.log(i, 0)][x.log(i, 1)]++;
        }
        for (int a = 0; a < 5; a++) for (int b = 0; b < 5; b++) holds(a + " to " + b, a == b ? count[a][b] == 0 : count[a][b] > 0);
        // Of two there is one other: a DRAW is made all the same.
        UntoldFacts two = told(knowers(2));
        due("drift(1, 0)", two.drift(1, 0), 1);
        logIs(two, 0, 0, 1, 0, 0, 1);
        due("seed(0)", two.seed(0), next(next(0)));
    }

    private static void oddsOrMore() {
        // From 12345 the first of SEVEN to speak is 0, to 2: FACT 0 by ODDS 500000.
        for (int q : new int[] {0, 499999, 500000, 500001, 1000000}) {
            UntoldFacts x = told(SEVEN);
            x.seed(12345);
            due("odds(0, 2, 0)", x.odds(0, 2, 0), 500000);
            due("drift(1, " + q + ")", x.drift(1, q), 0);
            due("told(4) of " + q, x.told(4), q <= 500000 ? 1 : 0);
            if (q <= 500000) {
                logIs(x, 0, 0, 2, 0, 0, 0);
                canKnowIs(x, 2, 0, 5, 11);
            } else {
                canKnowIs(x, 2, 0, 5);
                knownIs(x, 5, 2, 0, 11);
            }
            due("seed behind it", x.seed(0), next(next(12345)));
        }
        // ODDS 1000000 are q or more for every q; ODDS 0 for 0 alone.
        UntoldFacts sure = told("hats 99;fact 1;person knows 0;person;");
        due("drift(1, 1000000)", sure.drift(1, 1000000), 0);
        logIs(sure, 0, 0, 1, 0, 0, 0);
        for (int q = 0; q <= 1; q++) {
            UntoldFacts none = told(knowers(2));
            due("drift(1, " + q + ")", none.drift(1, q), 1 - q);
            due("told(4)", none.told(4), 1 - q);
        }
    }

    private static void alsoWithNone() {
        // All have HAT 0: {} or {0, 1}; nobody lacks anything plainly, and nothing is struck.
        UntoldFacts y = told("hats 3;fact 1;fact 2;person;person;person knows 0,1;");
        due("drift(99, 1000000)", y.drift(99, 1000000), 0);
        canKnowIs(y, 0, 1, 0, 3);
        // 0 knows nothing, but {} or {0, 1} as 1 sees, who lacks FACT 1 plainly: 0 is SILENT, and {0, 1} is struck.
        UntoldFacts z = told("hats 5;fact 1;fact 4;person;person knows 0;");
        due("person(1, 3)", z.person(1, 3), 2);
        canKnowIs(z, 1, 0, 0, 3);
        z.seed(seedForSpeaker(0, 2));
        due("drift(1, 0)", z.drift(1, 0), 0);
        canKnowIs(z, 1, 0, 0);
        due("told(4)", z.told(4), 0);
        due("drift(99, 0), nobody knows anything", told("hats 99;fact 1;person;person;").drift(99, 0), 0);
        due("drift(99, 0), without FACTS", told("person;person;").drift(99, 0), 0);
    }

    /** A SEED from which the next DRAW of n is a. */
    private static int seedForSpeaker(int a, int n) {
        int seed = 0;
        while (next(seed) / 65536 % n != a) seed++;
        return seed;
    }

    private static void nobodyListens() {
        UntoldFacts x = told("hats 99;fact 1;fact 2;fact 4;person knows 0,1,2;person;person;");
        x.drift(30, 0);
        for (int i = 0; i < x.told(4); i++) due("log(" + i + ", 3)", x.log(i, 3), 0);
        UntoldFacts y = told(knowers(1) + "person;person;");
        y.seed(seedForSpeaker(0, 3));
        due("drift(1, 0)", y.drift(1, 0), 0);
        due("one of the others knows it", Integer.bitCount(y.fact(0, 2)), 2);
    }

    private static void driftBounds() {
        for (int n : new int[] {1, 2, 98, 99}) {
            UntoldFacts x = told(KNOWERS);
            due("drift(" + n + ", 0)", x.drift(n, 0), n);
            due("told(4)", x.told(4), Math.min(n, 60));
            int sum = 0;
            for (int p = 0; p < 5; p++) sum += x.person(p, 2);
            due("INSULTS of all", sum, n);
        }
        UntoldFacts y = told(KNOWERS);
        y.say(0, 1, 0, 0);
        due("drift(5, 0), INSULTS in these", y.drift(5, 0), 5);
        due("drift(5, 1), none in these", y.drift(5, 1), 0);
        due("drift(5, 1000000), none in these", y.drift(5, 1000000), 0);
    }

    private static void driftRefusals() {
        int[][] no = {{0, 0}, {100, 0}, {-1, 0}, {101, 0}, {LOW, 0}, {HIGH, 0}, {1, -1}, {1, 1000001}, {1, LOW}, {1, HIGH}, {0, -1}, {100, 1000001}};
        for (String town : new String[] {KNOWERS, "fact 1;person knows 0;", "fact 1;", ""}) {
            UntoldFacts x = told(town);
            for (int[] n : no) due("drift(" + n[0] + ", " + n[1] + ")", x.drift(n[0], n[1]), OUTSIDE);
            due("told(4)", x.told(4), 0);
            due("seed(0)", x.seed(0), 0);
        }
        for (String few : new String[] {"", "fact 1;", "person;", "fact 1;person knows 0;"}) {
            UntoldFacts x = told(few);
            for (int n : new int[] {1, 99}) {
                due("drift(" + n + ", 0), few", x.drift(n, 0), NOT);
                due("drift(" + n + ", 1000000), few", x.drift(n, 1000000), NOT);
            }
            due("seed(0), nothing was drawn", x.seed(0), 0);
        }
        due("drift(1, 0), new", new UntoldFacts().drift(1, 0), NOT);
        due("drift(1, 0), two", told(knowers(2)).drift(1, 0), 1);
    }

    private static void seedCall() {
        UntoldFacts x = new UntoldFacts();
        due("seed(0)", x.seed(0), 0);
        due("seed(1)", x.seed(1), 0);
        due("seed(HIGH)", x.seed(HIGH), 1);
        for (int v : new int[] {-1, -2, LOW, LOW + 1, NOT}) due("seed(" + v + ")", x.seed(v), OUTSIDE);
        due("seed(HIGH - 1)", x.seed(HIGH - 1), HIGH);
        due("seed(0)", x.seed(0), HIGH - 1);
        due("seed(0)", x.seed(0), 0);
        x.seed(4711);
        x.morning();
        x.town();
        due("seed(0), it stays", x.seed(0), 4711);
    }

    private static void imagesKeep() {
        UntoldFacts x = told(SEVEN);
        x.say(3, 2, 1, 0);
        x.say(3, 2, 1, 0);
        x.morning();
        x.say(3, 2, 1, 1);
        x.silent(1, 0);
        x.seed(9);
        List<Integer> then = sight(x);
        x.keep(1);
        x.say(0, 1, 0, 4);
        x.say(0, 1, 0, 4);
        x.morning();
        x.say(1, 2, 0, 0);
        x.silent(0, 1);
        x.seed(8);
        holds("all is otherwise", !sight(x).equals(then));
        due("goBack(1)", x.goBack(1), 1);
        due("what is known", x.person(1, 0), 2);
        due("HATS", x.person(2, 1), 2);
        due("CAN KNOW", x.canKnow(0, 1, NONE), 3);
        due("THE LOG", x.told(4), 1);
        logIs(x, 0, 3, 2, 1, 1, 1);
        due("INSULTS", x.person(3, 2), 2);
        due("INSULTS", x.person(0, 2), 0);
        due("THE SEED", x.seed(9), 9);
        holds("all is as then", sight(x).equals(then));
        // THE TEXT, THE BOOK and the byte of the fault are not in it.
        x.write(0, 1, 0);
        feedAll(x, "hats 1;");
        x.town();
        feedAll(x, "per");
        due("goBack(1)", x.goBack(1), 1);
        due("told(5)", x.told(5), 1);
        due("told(3)", x.told(3), 3);
        due("fault()", x.fault(), 5);
        due("tear()", x.tear(), 1);
        x.goBack(1);
        due("told(5), torn", x.told(5), 0);
    }

    private static void imagesKeepAllOfTheLog() {
        UntoldFacts x = told(KNOWERS);
        for (int k = 0; k < 60; k++) x.say(k % 5, (k + 1) % 5, 0, 1 << (k + 2) % 5);
        x.keep(0);
        x.morning();
        for (int k = 0; k < 60; k++) x.say(0, 4, 0, 14);
        x.keep(1);
        due("goBack(0)", x.goBack(0), 1);
        due("told(4)", x.told(4), 60);
        for (int k : new int[] {0, 1, 12, 13, 58, 59}) logIs(x, k, k % 5, (k + 1) % 5, 0, 1 << (k + 2) % 5, 1);
        due("goBack(1)", x.goBack(1), 1);
        for (int k : new int[] {0, 1, 12, 13, 58, 59}) logIs(x, k, 0, 4, 0, 14, 1);
    }

    private static void keepCall() {
        for (int i : new int[] {-1, 2, 3, LOW, HIGH}) {
            UntoldFacts x = told(ONE);
            due("keep(" + i + ")", x.keep(i), UNKNOWN);
            due("goBack(0), nothing was kept", x.goBack(0), NOT);
            due("goBack(1), nothing was kept", x.goBack(1), NOT);
        }
        UntoldFacts x = told(ONE);
        due("keep(0)", x.keep(0), 1);
        due("goBack(1), the other one", x.goBack(1), NOT);
        x.say(0, 2, 0, 0);
        due("keep(1)", x.keep(1), 1);
        x.say(0, 1, 0, 0);
        due("goBack(0)", x.goBack(0), 1);
        due("told(4)", x.told(4), 0);
        due("goBack(1)", x.goBack(1), 1);
        due("told(4)", x.told(4), 1);
        due("keep(0), anew", x.keep(0), 1);
        x.morning();
        due("goBack(0)", x.goBack(0), 1);
        due("told(4)", x.told(4), 1);
        due("person(2, 0)", x.person(2, 0), 1);
    }

    private static void goBackCall() {
        UntoldFacts x = told(ONE);
        for (int i : new int[] {-1, 2, 3, LOW, HIGH}) due("goBack(" + i + ")", x.goBack(i), UNKNOWN);
        due("goBack(0)", x.goBack(0), NOT);
        due("goBack(1)", x.goBack(1), NOT);
        x.keep(1);
        due("goBack(0)", x.goBack(0), NOT);
        for (int i : new int[] {-1, 2}) due("goBack(" + i + "), with one kept", x.goBack(i), UNKNOWN);
        x.say(0, 1, 0, 4);
        due("goBack(1)", x.goBack(1), 1);
        knownIs(x, 1, 1, 0);
        x.say(0, 2, 0, 0);
        due("goBack(1), it is still kept", x.goBack(1), 1);
        knownIs(x, 1, 1, 0);
        due("goBack(1), nothing between", x.goBack(1), 1);
        feedAll(x, "?");
        x.town();
        due("goBack(1), behind a fault", x.goBack(1), 1);
        feedAll(x, ONE);
        x.town();
        due("goBack(1), IMAGES are gone", x.goBack(1), NOT);
    }
}
