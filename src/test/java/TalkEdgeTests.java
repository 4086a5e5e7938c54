/** Sayings, silences, mornings, parties: the boundary cases of SAID, SILENT, MORNING, PARTY and of promises 14 to 17. */
public final class TalkEdgeTests extends Check {
    /** CLOSED: {0, 2} with HAT 0, {3} with HAT 1. PERSONS know 3, 0, 0. */
    private static final String LINKED = "hats 2;fact 1;fact 2 follows 0;person knows 0;person;person;";
    /** HATS 3, 0, 3: FACTS {0} or {1, 2} for those with 3. */
    private static final String GONE = "hats 99;fact 3;fact 1;fact 2;person knows 0;person;person knows 1,2;";
    /** FACT 0 becomes safe for 0 to 1 only once 1 has said FACT 2. */
    private static final String STEPS = "hats 99;fact 5;fact 2;fact 3;person knows 0,1;person knows 1,2;";
    private static final int[][] NO_TWO = {{0, 0}, {1, 1}, {2, 2}, {3, 3}, {-1, 0}, {0, -1}, {4, 0}, {0, 4}, {4, 4}, {-1, -1},
        {HIGH, 0}, {0, HIGH}, {LOW, 0}, {0, LOW}, {32, 0}, {0, 32}};

    public static void main(String[] args) {
        said();
        silences();
        mornings();
        parties();
        end("TalkEdgeTests");
    }

    private static void said() {
        sentence("a says a FACT, which it knows, to b; some others LISTEN.", TalkEdgeTests::listeners);
        sentence("If b knows it already, that is an INSULT.", TalkEdgeTests::knowsAlready);
        sentence("a, b and all who LISTEN see it", TalkEdgeTests::whoSees);
        sentence("of SETS that it thinks b CAN KNOW those stay that have the FACT (INSULT), or have it not", TalkEdgeTests::hearerSets);
        sentence("each that stays has the FACT then and is CLOSED", TalkEdgeTests::closedThen);
        sentence("of SETS that it thinks a CAN KNOW those stay that have the FACT", TalkEdgeTests::speakerSets);
        sentence("of each other one who LISTENS: each SET has the FACT then and is CLOSED.", TalkEdgeTests::listenerSets);
        sentence("(Nobody thinks so of itself.)", TalkEdgeTests::ofItself);
        sentence("b and all who LISTEN know it then, CLOSED.", TalkEdgeTests::knowThen);
        sentence("Unlike SETS may become one.", TalkEdgeTests::becomeOne);
        sentence("SAID; listeners a SET of PERSONS: 1 an INSULT, 0 not.", TalkEdgeTests::sayAnswers);
        sentence("UNKNOWN (one twice; listeners with a or b), NOT: a does not know it.", TalkEdgeTests::sayRefusals);
    }

    private static void silences() {
        sentence("SETS that it thinks a CAN KNOW that have some FACT of b's PLAIN lack which b does not know are struck", TalkEdgeTests::struck);
        sentence("a says nothing to b: b sees", TalkEdgeTests::onlyHearerSees);
        sentence("SILENT: how many SETS are struck. UNKNOWN (one twice).", TalkEdgeTests::silentCall);
    }

    private static void mornings() {
        sentence("MORNING: all HATS anew", TalkEdgeTests::hatsAnew);
        sentence("all CLOSED SETS with q's HAT that have all FACTS that p was SURE that q knows", TalkEdgeTests::setsAnew);
        sentence("MORNING: HATS that became other ones (a SET of PERSONS).", TalkEdgeTests::otherHats);
        sentence("THE LOG is empty.", TalkEdgeTests::logIsEmpty);
    }

    private static void parties() {
        sentence("as long as something of it is SAFE for somebody to somebody", TalkEdgeTests::asLongAs);
        sentence("the first (lesser speaker, then lesser hearer, then lesser FACT) is SAID", TalkEdgeTests::partyOrder);
        sentence("all others LISTEN; how many sayings", TalkEdgeTests::othersListen);
        sentence("PARTY: how many sayings. UNKNOWN.", TalkEdgeTests::partyCall);
    }

    // ---- sayings

    private static void listeners() {
        UntoldFacts x = told("hats 99;fact 1;person knows 0;person;person;person;person;");
        due("say, nobody listens", x.say(0, 1, 0, 0), 0);
        knownIs(x, 1, 1, 0, 0, 0);
        due("say, one listens", x.say(0, 2, 0, 16), 0);
        knownIs(x, 1, 1, 1, 0, 1);
        due("say, all others listen", x.say(0, 3, 0, 22), 0);
        knownIs(x, 1, 1, 1, 1, 1);
        logIs(x, 0, 0, 1, 0, 0, 0);
        logIs(x, 1, 0, 2, 0, 16, 0);
        logIs(x, 2, 0, 3, 0, 22, 0);
    }

    private static void knowsAlready() {
        UntoldFacts x = told(LINKED);
        due("say, not known yet", x.say(0, 1, 0, 0), 0);
        due("say, known since", x.say(0, 1, 0, 0), 1);
        due("say, known by what it follows from", x.say(0, 1, 1, 0), 1);
        due("say, to the one who told it", x.say(1, 0, 0, 0), 1);
        due("say, to one who did not listen", x.say(0, 2, 0, 2), 0);
        due("say, to one who listened", x.say(0, 1, 0, 4), 1);
        due("person(0, 2)", x.person(0, 2), 3);
        due("person(1, 2)", x.person(1, 2), 1);
        due("person(2, 2)", x.person(2, 2), 0);
        UntoldFacts y = told(ONE);
        due("say, told to know it", y.say(0, 1, 0, 0), 1);
        y.say(0, 2, 0, 0);
        y.morning();
        due("say, learned ahead of the MORNING", y.say(0, 2, 0, 0), 1);
    }

    private static void whoSees() {
        UntoldFacts x = told("hats 2;fact 2;fact 2;person knows 0,1;person;person;person;");
        due("say(0, 1, 0, 4)", x.say(0, 1, 0, 4), 0);
        for (int q = 0; q < 3; q++) canKnowIs(x, 3, q, 0, 1, 2, 3);
        for (int p = 0; p < 3; p++) canKnowIs(x, p, 3, 0, 1, 2, 3);
        canKnowIs(x, 0, 1, 1, 3);
        canKnowIs(x, 0, 2, 1, 3);
        canKnowIs(x, 1, 0, 1, 3);
        canKnowIs(x, 1, 2, 1, 3);
        canKnowIs(x, 2, 0, 1, 3);
        canKnowIs(x, 2, 1, 1, 3);
        knownIs(x, 3, 1, 1, 0);
    }

    private static void hearerSets() {
        UntoldFacts x = told("hats 2;fact 2;fact 1;person knows 0;person;person knows 0;");
        canKnowIs(x, 0, 1, 0, 1);
        due("say, no INSULT: 0 stays and becomes 1", x.say(0, 1, 0, 0), 0);
        canKnowIs(x, 0, 1, 1);
        due("say, an INSULT: 1 stays", x.say(0, 2, 0, 2), 1);
        canKnowIs(x, 0, 2, 1);
        canKnowIs(x, 1, 2, 1);
        canKnowIs(x, 2, 1, 1);
        // No SET that has it: none stays.
        UntoldFacts y = told(ONE);
        y.say(0, 2, 0, 0);
        canKnowIs(y, 1, 2, 0);
        due("say, an INSULT that 1 could not see coming", y.say(1, 2, 0, 0), 1);
        canKnowIs(y, 1, 2);
        canKnowIs(y, 2, 1, 1);
        due("say once more, without SETS", y.say(1, 2, 0, 0), 1);
        canKnowIs(y, 1, 2);
        // No SET that has it not: none stays.
        UntoldFacts z = told("hats 99;fact 3;fact 1;fact 2;person knows 0,1;person knows 2;person knows 0;person;");
        canKnowIs(z, 0, 2, 1, 6);
        due("say(1, 3, 2, 0)", z.say(1, 3, 2, 0), 0);
        due("say(3, 0, 2, 0)", z.say(3, 0, 2, 0), 0);
        canKnowIs(z, 0, 2, 1, 6);
        due("say(0, 2, 2, 0), 1 becomes 5", z.say(0, 2, 2, 0), 0);
        canKnowIs(z, 0, 2, 5);
        due("silent(2, 3)", z.silent(2, 3), 2);
        due("say(2, 3, 0, 0), as 3 has no SETS of 2", z.say(2, 3, 0, 0), 0);
        canKnowIs(z, 3, 2);
    }

    private static void closedThen() {
        UntoldFacts x = told("hats 5;fact 5;fact 5;fact 5 follows 0,1;fact 5 follows 2;person knows 0,1;person;");
        canKnowIs(x, 0, 1, 0, 1, 2, 8, 9, 10, 12, 13, 14, 15);
        due("say(0, 1, 0, 0)", x.say(0, 1, 0, 0), 0);
        // 0, 2, 8, 10, 12, 14 stay: 1, 15, 9, 15, 13, 15.
        canKnowIs(x, 0, 1, 1, 9, 13, 15);
        due("say(0, 1, 1, 0)", x.say(0, 1, 1, 0), 0);
        canKnowIs(x, 0, 1, 15);
        knownIs(x, 15, 15);
    }

    private static void speakerSets() {
        UntoldFacts x = told("hats 2;fact 2;fact 2;person knows 0,1;person;person;");
        x.say(0, 1, 0, 4);
        canKnowIs(x, 1, 0, 1, 3);
        canKnowIs(x, 2, 0, 1, 3);
        x.say(0, 1, 1, 0);
        canKnowIs(x, 1, 0, 3);
        canKnowIs(x, 2, 0, 1, 3);
        // None has it: none stays.
        UntoldFacts y = told(ONE);
        y.say(0, 2, 0, 0);
        canKnowIs(y, 1, 2, 0);
        due("say(2, 1, 0, 0)", y.say(2, 1, 0, 0), 1);
        canKnowIs(y, 1, 2);
        canKnowIs(y, 2, 1, 1);
        due("safe(1, 2), without SETS", y.safe(1, 2), 0);
        due("odds(1, 2, 0), without SETS", y.odds(1, 2, 0), 0);
    }

    private static void listenerSets() {
        UntoldFacts x = told("hats 2;fact 2;fact 2 follows 0;person knows 0;person;person knows 1;person knows 0;person;");
        for (int p = 0; p < 5; p++) for (int q = 0; q < 5; q++) if (p != q) canKnowIs(x, p, q, 0, 2, 3);
        due("say(0, 1, 0, 12)", x.say(0, 1, 0, 12), 0);
        knownIs(x, 3, 3, 3, 3, 0);
        for (int p = 0; p < 4; p++) for (int q = 0; q < 4; q++) if (p != q) canKnowIs(x, p, q, 3);
        for (int p = 0; p < 4; p++) {
            canKnowIs(x, p, 4, 0, 2, 3);
            canKnowIs(x, 4, p, 0, 2, 3);
        }
        due("told(4)", x.told(4), 1);
        due("person(0, 2), a listener who knows it is no INSULT", x.person(0, 2), 0);
    }

    private static void ofItself() {
        UntoldFacts x = told(LINKED);
        x.say(0, 1, 0, 4);
        for (int p = 0; p < 3; p++) {
            due("canKnow(" + p + ", " + p + ", -1)", x.canKnow(p, p, -1), UNKNOWN);
            due("sure(" + p + ", " + p + ", 0)", x.sure(p, p, 0), UNKNOWN);
        }
    }

    private static void knowThen() {
        UntoldFacts x = told("hats 99;fact 1;fact 2;fact 4 follows 0,1;fact 8 follows 2;person knows 0;person knows 1;person;person knows 1;");
        x.say(0, 1, 0, 12);
        knownIs(x, 1, 15, 1, 15);
        x.say(1, 0, 1, 0);
        knownIs(x, 15, 15, 1, 15);
        due("say(1, 2, 3, 0), what followed can be said", x.say(1, 2, 3, 0), 0);
        knownIs(x, 15, 15, 9, 15);
    }

    private static void becomeOne() {
        UntoldFacts x = told(LINKED);
        canKnowIs(x, 0, 1, 0, 2);
        canKnowIs(x, 0, 2, 0, 2);
        x.say(0, 1, 0, 4);
        canKnowIs(x, 0, 1, 3);
        canKnowIs(x, 0, 2, 3);
        due("odds(0, 1, 0)", x.odds(0, 1, 0), 0);
        due("sure(0, 2, 0)", x.sure(0, 2, 0), 3);
        UntoldFacts y = told(BLIND.replace("person;person;", "person;person knows 0;person;"));
        y.say(1, 2, 0, 1);
        due("canKnow of one who listened, 64 become 32", y.canKnow(1, 0, NONE), 32);
        due("canKnow of one who heard, 32 stay", y.canKnow(1, 2, NONE), 32);
        due("canKnow of one who spoke, 32 stay", y.canKnow(0, 1, NONE), 32);
    }

    private static void sayAnswers() {
        UntoldFacts x = told("hats 99;fact 1;fact 1;fact 1;fact 1;fact 1;fact 1;person knows 5;person;person;person;person;");
        due("say(0, 4, 5, 0)", x.say(0, 4, 5, 0), 0);
        due("say(4, 0, 5, 14)", x.say(4, 0, 5, 14), 1);
        knownIs(x, 32, 32, 32, 32, 32);
        due("say(3, 4, 5, 7)", x.say(3, 4, 5, 7), 1);
    }

    private static void sayRefusals() {
        UntoldFacts x = told(SEVEN);
        for (int[] n : NO_TWO) {
            due("say(" + n[0] + ", " + n[1] + ", 0, 0)", x.say(n[0], n[1], 0, 0), UNKNOWN);
            due("say(" + n[0] + ", " + n[1] + ", 9, -1)", x.say(n[0], n[1], 9, -1), UNKNOWN);
        }
        for (int f : new int[] {-1, 4, 5, 6, 32, LOW, HIGH}) due("say(0, 1, " + f + ", 0)", x.say(0, 1, f, 0), UNKNOWN);
        for (int l : new int[] {1, 2, 3, 5, 6, 15, 16, 20, 28, -1, 32, LOW, HIGH, LOW + 4, 1 << 30}) {
            due("say(0, 1, 0, " + l + ")", x.say(0, 1, 0, l), UNKNOWN);
            due("say(0, 1, 1, " + l + "), also NOT", x.say(0, 1, 1, l), UNKNOWN);
        }
        due("say(0, 1, 1, 0)", x.say(0, 1, 1, 0), NOT);
        due("say(0, 1, 3, 12)", x.say(0, 1, 3, 12), NOT);
        due("say(2, 0, 0, 0), who knows nothing", x.say(2, 0, 0, 0), NOT);
        due("told(4)", x.told(4), 0);
        knownIs(x, 5, 2, 0, 11);
        due("say(0, 1, 0, 12), all others", x.say(0, 1, 0, 12), 0);
        due("say(2, 3, 0, 3), all others", x.say(2, 3, 0, 3), 1);
        due("say(1, 0, 3, 0), known since", x.say(1, 0, 3, 0), 0);
    }

    // ---- silences

    private static void struck() {
        // 2 has HAT 0: {0, 13}, and lacks FACT 1 plainly. 0 and 3: {5, 11}; 1: {2, 8, 15}.
        UntoldFacts x = told(SEVEN);
        due("silent(0, 2), 11 of 5, 11", x.silent(0, 2), 1);
        canKnowIs(x, 2, 0, 5);
        due("silent(1, 2), 2 and 15 of 2, 8, 15", x.silent(1, 2), 2);
        canKnowIs(x, 2, 1, 8);
        due("silent(0, 2), none is left to strike", x.silent(0, 2), 0);
        due("silent(2, 0), who lacks nothing plainly", x.silent(2, 0), 0);
        canKnowIs(x, 0, 2, 0, 13);
        due("say(3, 2, 1, 0)", x.say(3, 2, 1, 0), 0);
        UntoldFacts y = told(SEVEN);
        y.say(3, 2, 1, 0);
        due("silent(0, 2), who knows what it lacked", y.silent(0, 2), 0);
        canKnowIs(y, 2, 0, 5, 11);
        // All are struck; then there is nothing to strike.
        UntoldFacts z = told(PLAIN);
        due("silent(0, 2)", z.silent(0, 2), 1);
        canKnowIs(z, 2, 0);
        due("silent(0, 2), no SETS", z.silent(0, 2), 0);
        due("silent(2, 0), of one who knows nothing", z.silent(2, 0), 0);
        canKnowIs(z, 0, 2, 0);
        // Of two FACTS that it lacks plainly one is enough; what it was told meanwhile is none of these.
        UntoldFacts g = told(GONE);
        g.say(2, 1, 1, 0);
        g.say(2, 1, 2, 0);
        canKnowIs(g, 1, 0, 1, 6);
        due("silent(0, 1), {0} of {0}, {1, 2}", g.silent(0, 1), 1);
        canKnowIs(g, 1, 0, 6);
        due("silent(0, 1) of all 64", told(BLIND).silent(0, 1), 0);
        // By the HAT of the MORNING, not by what it knows now.
        UntoldFacts h = told("hats 2;fact 2;fact 1;person knows 0,1;person;person knows 0;");
        due("person(1, 3)", h.person(1, 3), 2);
        due("say(0, 1, 1, 0)", h.say(0, 1, 1, 0), 0);
        due("silent(2, 1), FACT 0 is no PLAIN lack", h.silent(2, 1), 0);
        canKnowIs(h, 1, 2, 0, 1);
        h.morning();
        due("person(1, 3), by the new HAT", h.person(1, 3), 0);
    }

    private static void onlyHearerSees() {
        UntoldFacts x = told(SEVEN);
        UntoldFacts y = told(SEVEN);
        due("silent(3, 2)", x.silent(3, 2), 1);
        canKnowIs(x, 2, 3, 5);
        canKnowIs(x, 0, 3, 5, 11);
        canKnowIs(x, 1, 3, 5, 11);
        canKnowIs(x, 3, 2, 0, 13);
        canKnowIs(x, 2, 0, 5, 11);
        canKnowIs(x, 2, 1, 2, 8, 15);
        due("told(4), nothing was SAID", x.told(4), 0);
        for (int p = 0; p < 4; p++) {
            for (int w = 0; w < 4; w++) due("person(" + p + ", " + w + ")", x.person(p, w), y.person(p, w));
        }
    }

    private static void silentCall() {
        UntoldFacts x = told(SEVEN);
        for (int[] n : NO_TWO) due("silent(" + n[0] + ", " + n[1] + ")", x.silent(n[0], n[1]), UNKNOWN);
        due("silent(3, 0)", x.silent(3, 0), 0);
        due("silent(0, 1), without FACTS", told("person;person;").silent(0, 1), 0);
        due("silent(0, 1), one PERSON", told("person;").silent(0, 1), UNKNOWN);
    }

    // ---- mornings

    private static void hatsAnew() {
        UntoldFacts x = told(LINKED);
        hatsAre(x, 1, 0, 0);
        x.say(0, 1, 0, 0);
        hatsAre(x, 1, 0, 0);
        due("morning()", x.morning(), 2);
        hatsAre(x, 1, 1, 0);
        due("morning() again", x.morning(), 0);
        hatsAre(x, 1, 1, 0);
        due("person(0, 2)", x.person(0, 2), 0);
    }

    private static void setsAnew() {
        UntoldFacts x = told(SEVEN);
        x.say(3, 2, 1, 1);
        due("morning()", x.morning(), 5);
        canKnowIs(x, 3, 0, 15);
        canKnowIs(x, 3, 2, 2, 15);
        canKnowIs(x, 1, 2, 2, 8, 15);
        canKnowIs(x, 1, 0, 15);
        canKnowIs(x, 0, 3, 11);
        // What was struck comes back: only what one is SURE that others know stays.
        UntoldFacts y = told(SEVEN);
        y.silent(1, 2);
        canKnowIs(y, 2, 1, 8);
        due("morning()", y.morning(), 0);
        canKnowIs(y, 2, 1, 8, 15);
        // No SETS: SURE of nothing, and all with the HAT come back.
        UntoldFacts z = told(ONE);
        z.silent(0, 2);
        canKnowIs(z, 2, 0);
        due("morning()", z.morning(), 0);
        canKnowIs(z, 2, 0, 1);
        // Wrongly SURE: no SET with the new HAT has it all.
        UntoldFacts g = told(GONE);
        g.say(2, 1, 1, 0);
        g.say(2, 1, 2, 0);
        g.silent(0, 1);
        g.say(2, 0, 1, 0);
        due("sure(1, 0, 0)", g.sure(1, 0, 0), 6);
        due("morning()", g.morning(), 3);
        canKnowIs(g, 1, 0);
        canKnowIs(g, 2, 0, 3);
        due("morning() again", g.morning(), 0);
        canKnowIs(g, 1, 0, 3);
    }

    private static void otherHats() {
        UntoldFacts none = told("hats 2;fact 2;person knows 0;person;");
        due("say(0, 1, 0, 0)", none.say(0, 1, 0, 0), 0);
        due("morning(), more is known, the HAT is the same", none.morning(), 0);
        canKnowIs(none, 0, 1, 1);
        canKnowIs(none, 1, 0, 1);
        UntoldFacts four = told("hats 99;fact 1;person knows 0;person;person;person;person;");
        four.say(0, 1, 0, 28);
        due("morning(), all but one", four.morning(), 30);
        UntoldFacts five = told("hats 99;fact 1;fact 2;person knows 0;person knows 1;person;person;person;");
        five.say(0, 1, 0, 28);
        five.say(1, 0, 1, 28);
        due("morning(), all five", five.morning(), 31);
        due("morning(), of nobody", told("fact 1;").morning(), 0);
        due("morning(), nothing was said", told(SEVEN).morning(), 0);
    }

    private static void logIsEmpty() {
        UntoldFacts x = told(ONE);
        x.say(0, 1, 0, 0);
        x.say(0, 2, 0, 0);
        due("told(4)", x.told(4), 2);
        x.morning();
        due("told(4)", x.told(4), 0);
        due("log(0, 0)", x.log(0, 0), NONE);
        due("person(0, 2), INSULTS stay", x.person(0, 2), 1);
        x.say(1, 2, 0, 0);
        logIs(x, 0, 1, 2, 0, 0, 1);
    }

    // ---- parties

    private static void asLongAs() {
        UntoldFacts x = told(STEPS);
        due("safe(0, 1), not yet", x.safe(0, 1), 0);
        due("party(3), nothing of it is SAFE", x.party(3), 0);
        due("party(7), FACT 0 once FACT 2 was said", x.party(7), 2);
        logIs(x, 0, 1, 0, 2, 0, 0);
        logIs(x, 1, 0, 1, 0, 0, 0);
        knownIs(x, 7, 7);
        due("party(7) again", x.party(7), 0);
        UntoldFacts y = told(STEPS);
        due("party(4), that alone", y.party(4), 1);
        due("safe(0, 1), but the party had another SET", y.safe(0, 1), 1);
        due("party(1)", y.party(1), 1);
        // It is SAFE as 1 sees it, and an INSULT all the same; it is not SAFE then.
        UntoldFacts z = told(ONE);
        z.say(0, 2, 0, 0);
        due("party(1)", z.party(1), 1);
        logIs(z, 1, 1, 2, 0, 1, 1);
        due("person(1, 2)", z.person(1, 2), 1);
        due("party(1) again", z.party(1), 0);
        due("party(63), six sayings", told("hats 99;fact 1;fact 2;fact 4;fact 8;fact 16;fact 32;person knows 0,1,2,3,4,5;person;person;").party(63), 6);
    }

    private static void partyOrder() {
        // 0 can tell 2 FACT 0, 1 can tell 0 FACT 1: the lesser speaker is ahead of the lesser hearer.
        UntoldFacts x = told("hats 99;fact 1;fact 2;person knows 0;person knows 0,1;person knows 1;");
        due("party(3)", x.party(3), 2);
        logIs(x, 0, 0, 2, 0, 2, 0);
        logIs(x, 1, 1, 0, 1, 4, 0);
        // 0 can tell 1 FACT 1, and 2 FACT 0: the lesser hearer is ahead of the lesser FACT.
        UntoldFacts y = told("hats 99;fact 1;fact 2;person knows 0,1;person knows 0;person;");
        due("party(3)", y.party(3), 2);
        logIs(y, 0, 0, 1, 1, 4, 0);
        logIs(y, 1, 0, 2, 0, 2, 0);
        UntoldFacts z = told(PLAIN);
        due("party(6), the lesser FACT", z.party(6), 2);
        logIs(z, 0, 0, 1, 1, 4, 0);
        logIs(z, 1, 0, 1, 2, 4, 0);
    }

    private static void othersListen() {
        UntoldFacts x = told("hats 99;fact 1;person;person;person;person;person knows 0;");
        due("party(1)", x.party(1), 1);
        logIs(x, 0, 4, 0, 0, 14, 0);
        knownIs(x, 1, 1, 1, 1, 1);
        for (int p = 0; p < 5; p++) for (int q = 0; q < 5; q++) if (p != q) canKnowIs(x, p, q, 1);
        UntoldFacts y = told("hats 99;fact 1;person knows 0;person;");
        due("party(1), of two", y.party(1), 1);
        logIs(y, 0, 0, 1, 0, 0, 0);
    }

    private static void partyCall() {
        UntoldFacts x = told(PLAIN);
        for (int s : new int[] {-1, 64, 65, 127, 1 << 30, LOW, HIGH}) due("party(" + s + ")", x.party(s), UNKNOWN);
        due("party(0)", x.party(0), 0);
        due("told(4)", x.told(4), 0);
        due("party(63)", x.party(63), 6);
        due("told(4)", x.told(4), 6);
        UntoldFacts one = told("fact 1;person knows 0;");
        due("party(1) of one", one.party(1), 0);
        due("party(2) of one FACT", one.party(2), UNKNOWN);
        due("party(0) of nobody", told("").party(0), 0);
        due("party(1) of no FACT", told("person;person;").party(1), UNKNOWN);
        due("party(1) of nobody", told("fact 1;").party(1), 0);
    }
}
