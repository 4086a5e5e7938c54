/** THE LOG and THE BOOK: the boundary cases of section 3 and of promises 23 to 26. */
public final class BookEdgeTests extends Check {
    /** 0 knows all six, four others nothing: 24 sayings can be right, one after the other. */
    private static final String TEACHER = "hats 99;fact 1;fact 2;fact 4;fact 8;fact 16;fact 32;person knows 0,1,2,3,4,5;person;person;person;person;";

    public static void main(String[] args) {
        sentence("THE LOG keeps the first 60 of what was SAID (speaker, hearer, FACT, listeners, INSULT)", BookEdgeTests::firstSixty);
        sentence("from the latest MORNING on (the beginning)", BookEdgeTests::fromTheMorning);
        sentence("for which, all that is in THE LOG going by one after the other", BookEdgeTests::knewBySixty);
        sentence("what = 0 speaker, 1 hearer, 2 FACT, 3 listeners, 4 INSULT (1, 0); NONE: not so many. OUTSIDE (what).", BookEdgeTests::logCall);
        sentence("THE BOOK is a row of sayings (30 at most: speaker, hearer, FACT)", BookEdgeTests::thirty);
        sentence("tried from what is known now", BookEdgeTests::triedFromNow);
        sentence("WRONG: the first whose speaker does not know it, or whose hearer does (NONE)", BookEdgeTests::firstWrong);
        sentence("(NONE); nobody LISTENS.", BookEdgeTests::nobodyListens);
        sentence("A saying behind THE BOOK: how many it has. UNKNOWN (one twice), FULL (30).", BookEdgeTests::writeCall);
        sentence("THE BOOK is empty: how many sayings it had.", BookEdgeTests::tearCall);
        sentence("WRONG; NONE.", BookEdgeTests::judgeCall);
        end("BookEdgeTests");
    }

    private static void firstSixty() {
        UntoldFacts x = told(ONE);
        for (int k = 1; k <= 59; k++) {
            due("say(0, 1, 0, 0)", x.say(0, 1, 0, 0), 1);
            due("told(4)", x.told(4), k);
        }
        due("log(59, 0), not yet", x.log(59, 0), NONE);
        due("say(1, 0, 0, 4), the 60th", x.say(1, 0, 0, 4), 1);
        due("told(4)", x.told(4), 60);
        due("say(2, 1, 0, 1), the 61st", x.say(2, 1, 0, 1), 1);
        due("told(4)", x.told(4), 60);
        logIs(x, 0, 0, 1, 0, 0, 1);
        logIs(x, 58, 0, 1, 0, 0, 1);
        logIs(x, 59, 1, 0, 0, 4, 1);
        due("log(60, 0)", x.log(60, 0), NONE);
        due("person(0, 2)", x.person(0, 2), 59);
        due("person(2, 2), counted all the same", x.person(2, 2), 1);
        UntoldFacts y = told("hats 99;fact 1;fact 2;person knows 0,1;person;person;");
        due("say(0, 1, 0, 0)", y.say(0, 1, 0, 0), 0);
        due("drift(99, 0)", y.drift(99, 0) > 0 ? 1 : 0, 1);
        due("told(4), by DRAWS", y.told(4), 60);
        logIs(y, 0, 0, 1, 0, 0, 0);
        UntoldFacts z = told(ONE);
        for (int k = 0; k < 60; k++) z.say(0, 1, 0, 0);
        due("party(1), behind a full LOG", z.party(1), 1);
        due("told(4)", z.told(4), 60);
        knownIs(z, 1, 1, 1);
    }

    private static void fromTheMorning() {
        UntoldFacts x = told(ONE);
        due("told(4), the beginning", x.told(4), 0);
        for (int k = 0; k < 61; k++) x.say(0, 1, 0, 0);
        x.silent(0, 1);
        due("told(4)", x.told(4), 60);
        x.morning();
        due("told(4), the MORNING", x.told(4), 0);
        for (int i : new int[] {0, 1, 59}) due("log(" + i + ", 0)", x.log(i, 0), NONE);
        for (int k = 1; k <= 60; k++) {
            x.say(1, 0, 0, 0);
            due("told(4)", x.told(4), k);
        }
        logIs(x, 0, 1, 0, 0, 0, 1);
        logIs(x, 59, 1, 0, 0, 0, 1);
        due("say(0, 1, 0, 0)", x.say(0, 1, 0, 0), 1);
        logIs(x, 59, 1, 0, 0, 0, 1);
    }

    /** 2 says FACT 0: whether it is the 60th or the 61st decides. */
    private static void knewBySixty() {
        for (int ahead = 59; ahead <= 60; ahead++) {
            UntoldFacts x = told("hats 2;fact 2;fact 2;person knows 0,1;person knows 0;person knows 0;");
            for (int k = 0; k < ahead; k++) x.say(0, 1, 0, 0);
            knewIs(x, 2, 0, 1, 2, 3);
            x.say(2, 1, 0, 0);
            if (ahead == 59) knewIs(x, 2, 1, 3);
            else knewIs(x, 2, 0, 1, 2, 3);
        }
    }

    private static void logCall() {
        UntoldFacts x = told("hats 99;fact 1;fact 1;fact 1;fact 1;fact 1;fact 1;person;person;person knows 5;person;person;");
        x.say(2, 4, 5, 11);
        logIs(x, 0, 2, 4, 5, 11, 0);
        x.say(4, 3, 5, 0);
        logIs(x, 1, 4, 3, 5, 0, 1);
        for (int w : new int[] {-1, 5, 6, LOW, HIGH}) {
            due("log(0, " + w + ")", x.log(0, w), OUTSIDE);
            due("log(1, " + w + ")", x.log(1, w), OUTSIDE);
            due("log(2, " + w + "), not so many either", x.log(2, w), OUTSIDE);
            due("log(-1, " + w + "), not so many either", x.log(-1, w), OUTSIDE);
        }
        for (int i : new int[] {2, 3, 59, 60, 61, -1, -2, LOW, HIGH, 429496730, 858993460}) {
            for (int w = 0; w < 5; w++) due("log(" + i + ", " + w + ")", x.log(i, w), NONE);
        }
        due("log(0, 4) of nothing", new UntoldFacts().log(0, 4), NONE);
        due("log(0, 5) of nothing", new UntoldFacts().log(0, 5), OUTSIDE);
    }

    private static void thirty() {
        UntoldFacts x = told(ONE);
        for (int k = 1; k <= 30; k++) {
            due("write(0, 2, 0)", x.write(0, 2, 0), k);
            due("told(5)", x.told(5), k);
        }
        due("write(0, 2, 0), the 31st", x.write(0, 2, 0), FULL);
        due("told(5)", x.told(5), 30);
        due("judge(), the second", x.judge(), 1);
        due("tear()", x.tear(), 30);
        due("write(0, 2, 0), the first again", x.write(0, 2, 0), 1);
        due("judge()", x.judge(), NONE);
        // Speaker, hearer and FACT are kept.
        UntoldFacts y = told(PLAIN);
        y.write(1, 0, 5);
        y.write(0, 2, 5);
        y.write(2, 1, 5);
        due("judge(), 1 knows FACT 5", y.judge(), 2);
    }

    private static void triedFromNow() {
        UntoldFacts x = told(ONE);
        x.write(2, 0, 0);
        due("judge(), 2 does not know it", x.judge(), 0);
        x.tear();
        x.write(0, 2, 0);
        due("judge()", x.judge(), NONE);
        due("judge(), nothing was said by it", x.judge(), NONE);
        due("person(2, 0)", x.person(2, 0), 0);
        due("told(4)", x.told(4), 0);
        x.keep(0);
        x.say(1, 2, 0, 0);
        due("judge(), 2 knows it now", x.judge(), 0);
        x.goBack(0);
        due("judge(), 2 does not know it any more", x.judge(), NONE);
        x.morning();
        due("judge(), THE BOOK outlasts a MORNING", x.judge(), NONE);
        due("told(5)", x.told(5), 1);
    }

    private static void firstWrong() {
        UntoldFacts x = told(TEACHER);
        due("judge() of no saying", x.judge(), NONE);
        for (int f = 0; f < 6; f++) {
            for (int b = 1; b < 5; b++) {
                x.write(b - 1, b, f);
                due("judge(), all right", x.judge(), NONE);
            }
        }
        due("told(5)", x.told(5), 24);
        x.write(0, 4, 5);
        due("judge(), the hearer knows it", x.judge(), 24);
        x.write(0, 4, 5);
        due("judge(), the first of two", x.judge(), 24);
        x.tear();
        x.write(1, 0, 0);
        due("judge(), both: the speaker does not, the hearer does", x.judge(), 0);
        x.tear();
        x.write(1, 2, 0);
        x.write(0, 1, 0);
        due("judge(), the speaker does not know it yet", x.judge(), 0);
        x.tear();
        x.write(0, 1, 0);
        x.write(1, 2, 1);
        due("judge(), the speaker knows another", x.judge(), 1);
        // What follows is known to speakers, and to hearers.
        UntoldFacts y = told("hats 99;fact 1;fact 2 follows 0;person knows 0;person;person;");
        y.write(0, 1, 0);
        y.write(1, 2, 1);
        due("judge(), the speaker knows what follows", y.judge(), NONE);
        y.write(0, 1, 1);
        due("judge(), the hearer knows what follows", y.judge(), 2);
    }

    private static void nobodyListens() {
        UntoldFacts x = told("hats 99;fact 1;person knows 0;person;person;");
        x.write(0, 1, 0);
        x.write(0, 2, 0);
        due("judge(), 2 did not listen", x.judge(), NONE);
        x.write(2, 1, 0);
        due("judge()", x.judge(), 2);
    }

    private static void writeCall() {
        UntoldFacts x = told(ONE);
        int[][] no = {{0, 0, 0}, {1, 1, 0}, {2, 2, 0}, {-1, 0, 0}, {0, -1, 0}, {3, 0, 0}, {0, 3, 0}, {3, 3, 0}, {0, 1, -1}, {0, 1, 1},
            {0, 1, 32}, {0, 1, LOW}, {0, 1, HIGH}, {LOW, 0, 0}, {0, HIGH, 0}, {32, 0, 0}, {9, 9, 9}};
        for (int[] n : no) due("write(" + n[0] + ", " + n[1] + ", " + n[2] + ")", x.write(n[0], n[1], n[2]), UNKNOWN);
        due("told(5)", x.told(5), 0);
        for (int k = 1; k <= 30; k++) due("write(2, 1, 0), which is wrong", x.write(2, 1, 0), k);
        for (int[] n : no) due("write(" + n[0] + ", " + n[1] + ", " + n[2] + "), full", x.write(n[0], n[1], n[2]), UNKNOWN);
        due("write(0, 2, 0), full", x.write(0, 2, 0), FULL);
        UntoldFacts y = told(TEACHER);
        due("write(4, 0, 5), the last of all", y.write(4, 0, 5), 1);
        due("write(0, 4, 6)", y.write(0, 4, 6), UNKNOWN);
        due("write(0, 5, 5)", y.write(0, 5, 5), UNKNOWN);
    }

    private static void tearCall() {
        UntoldFacts x = told(ONE);
        due("tear(), empty", x.tear(), 0);
        x.write(0, 2, 0);
        due("tear()", x.tear(), 1);
        due("tear() again", x.tear(), 0);
        due("told(5)", x.told(5), 0);
        due("judge()", x.judge(), NONE);
        for (int k = 0; k < 31; k++) x.write(2, 0, 0);
        due("judge()", x.judge(), 0);
        due("tear(), full", x.tear(), 30);
        due("judge(), empty", x.judge(), NONE);
        due("tear() of nothing", new UntoldFacts().tear(), 0);
    }

    private static void judgeCall() {
        due("judge() of nothing", new UntoldFacts().judge(), NONE);
        UntoldFacts x = told(ONE);
        due("judge(), an empty book", x.judge(), NONE);
        x.write(0, 1, 0);
        due("judge(), the first", x.judge(), 0);
        x.write(0, 2, 0);
        due("judge(), still the first", x.judge(), 0);
        unchanged(ONE, y -> {
            y.write(0, 2, 0);
            y.write(2, 0, 0);
        }, y -> due("judge()", y.judge(), 1));
    }
}
