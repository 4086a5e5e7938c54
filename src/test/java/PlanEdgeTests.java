/** Plans, counts of hats, what is common, what was known, bores: the boundary cases of section 3 and of promises 18 to 22. */
public final class PlanEdgeTests extends Check {
    /** 0 can tell 1 FACT 0 only once 1 has told it FACT 2; FACT 3 follows for 1 then. */
    private static final String FEWEST = "hats 99;fact 5;fact 2;fact 3;fact 20 follows 0,2;person knows 0,1,3;person knows 1,2;";
    /** All four SETS have HAT 0. PERSONS know 3, 0, 1. */
    private static final String FOUR = "hats 2;fact 2;fact 2;person knows 0,1;person;person knows 0;";
    private static final int[][] NO_TWO = {{0, 0}, {1, 1}, {2, 2}, {-1, 0}, {0, -1}, {3, 0}, {0, 3}, {3, 3}, {-1, -1},
        {HIGH, 0}, {0, HIGH}, {LOW, 0}, {0, LOW}, {32, 0}, {0, 32}};

    public static void main(String[] args) {
        sentence("sayings between them, each SAFE when it comes", PlanEdgeTests::safeWhenItComes);
        sentence("by which both know all that either does now (or more)", PlanEdgeTests::allOrMore);
        sentence("the fewest, 6 at most", PlanEdgeTests::fewest);
        sentence("of like plans the first (saying by saying: from a ahead of from b, then the lesser FACT); NONE.", PlanEdgeTests::firstPlan);
        sentence("(Nobody LISTENS; tried.)", PlanEdgeTests::triedPlan);
        sentence("PLAN: i = NONE how many sayings, else 2 times k: who says the k-th, and 1: its FACT; NONE: there is none, not so many. UNKNOWN (one twice).", PlanEdgeTests::planCall);
        sentence("the least M (2 .. 99) by which any two CLOSED SETS", PlanEdgeTests::leastHats);
        sentence("that differ in 1 to d FACTS have unlike HATS; NONE.", PlanEdgeTests::oneToD);
        sentence("COUNT of HATS for d (1 .. 6); NONE. OUTSIDE.", PlanEdgeTests::hatsCall);
        sentence("COUNT of HATS for d (1 .. 6)", PlanEdgeTests::hatsOneAfterTheOther);
        sentence("IN COMMON for c: FACTS of which c is SURE that both a and b know them.", PlanEdgeTests::common);
        sentence("IN COMMON. UNKNOWN (some are one).", PlanEdgeTests::commonCall);
        sentence("SETS that q can have known in that MORNING: CLOSED ones with q's HAT", PlanEdgeTests::knewByHat);
        sentence("q knows what it says, lacks what it hears without an INSULT, knows what it hears with one", PlanEdgeTests::knewByLog);
        sentence("and learns what it hears, listens to", PlanEdgeTests::knewLearns);
        sentence("KNEW: i = NONE how many SETS, else the i-th; NONE: not so many. UNKNOWN.", PlanEdgeTests::knewCall);
        sentence("the sum over others of FACTS that it is SURE they know, or SURE they lack", PlanEdgeTests::bore);
        sentence("of like ones the least; NONE without PERSONS.", PlanEdgeTests::likeBores);
        sentence("INSULTS are counted by who said them.", PlanEdgeTests::insults);
        end("PlanEdgeTests");
    }

    // ---- plans

    private static void safeWhenItComes() {
        UntoldFacts x = told("hats 99;fact 5;fact 2;fact 3;person knows 0,1;person knows 1,2;");
        due("safe(0, 1), nothing yet", x.safe(0, 1), 0);
        planIs(x, 0, 1, 1, 2, 0, 0);
        planIs(x, 1, 0, 1, 2, 0, 0);
        x.say(1, 0, 2, 0);
        planIs(x, 0, 1, 0, 0);
        x.say(0, 1, 0, 0);
        planIs(x, 0, 1);
        // Each can know {0} or {1}: nothing is ever SAFE.
        noPlan(told("hats 99;fact 3;fact 3;person knows 0;person knows 1;"), 0, 1);
        noPlan(told(SEVEN), 0, 1);
        // SAFE for 1 alone, who cannot bring all about.
        UntoldFacts y = told("hats 99;fact 3;fact 3;fact 7;person knows 0;person knows 1,2;");
        due("safe(1, 0)", y.safe(1, 0), 4);
        noPlan(y, 0, 1);
        noPlan(y, 1, 0);
    }

    private static void allOrMore() {
        planIs(told("hats 99;fact 1;person knows 0;person knows 0;"), 0, 1);
        planIs(told("hats 99;fact 1;person;person;"), 0, 1);
        planIs(told("person;person;"), 1, 0);
        // What neither knows follows for both: FACT 2.
        UntoldFacts x = told("hats 99;fact 1;fact 2;fact 4 follows 0,1;person knows 0;person knows 1;");
        planIs(x, 0, 1, 0, 0, 1, 1);
        planIs(x, 1, 0, 1, 1, 0, 0);
        // No SETS are left to 2 of 0: what both know already needs no saying all the same.
        UntoldFacts y = told(ONE);
        y.silent(0, 2);
        planIs(y, 2, 0, 0, 0);
        y.say(0, 2, 0, 0);
        planIs(y, 2, 0);
        planIs(y, 0, 2);
    }

    private static void fewest() {
        UntoldFacts x = told(FEWEST);
        due("safe(0, 1), one could begin with FACT 3", x.safe(0, 1), 8);
        planIs(x, 0, 1, 1, 2, 0, 0);
        planIs(x, 1, 0, 1, 2, 0, 0);
        x.say(0, 1, 3, 0);
        planIs(x, 0, 1, 1, 2, 0, 0);
        UntoldFacts six = told("hats 99;fact 1;fact 2;fact 4;fact 8;fact 16;fact 32;person knows 0,1,2,3,4,5;person;");
        planIs(six, 0, 1, 0, 0, 0, 1, 0, 2, 0, 3, 0, 4, 0, 5);
        planIs(six, 1, 0, 0, 0, 0, 1, 0, 2, 0, 3, 0, 4, 0, 5);
        due("say(0, 1, 3, 0)", six.say(0, 1, 3, 0), 0);
        planIs(six, 1, 0, 0, 0, 0, 1, 0, 2, 0, 4, 0, 5);
        // One saying for six FACTS.
        UntoldFacts one = told("hats 99;fact 1;fact 2 follows 0;fact 4 follows 1;fact 8 follows 2;fact 16 follows 3;fact 32 follows 4;"
            + "person;person knows 0;");
        planIs(one, 0, 1, 1, 0);
        UntoldFacts fan = told("hats 99;fact 1;fact 2 follows 0;fact 4 follows 0;fact 8 follows 0,1;person;person knows 0;");
        planIs(fan, 0, 1, 1, 0);
    }

    private static void firstPlan() {
        UntoldFacts x = told(PLAIN);
        planIs(x, 0, 1, 0, 0, 0, 1, 0, 2, 1, 3, 1, 4, 1, 5);
        planIs(x, 1, 0, 1, 3, 1, 4, 1, 5, 0, 0, 0, 1, 0, 2);
        planIs(x, 2, 1, 1, 3, 1, 4, 1, 5);
        x.say(0, 1, 1, 0);
        planIs(x, 0, 1, 0, 0, 0, 2, 1, 3, 1, 4, 1, 5);
        UntoldFacts none = told("hats 2;fact 1;fact 1;person knows 0;person knows 1;");
        noPlan(none, 0, 1);
        noPlan(none, 1, 0);
    }

    private static void triedPlan() {
        unchanged(PLAIN, x -> x.say(0, 1, 0, 0), x -> {
            planIs(x, 0, 1, 0, 1, 0, 2, 1, 3, 1, 4, 1, 5);
            due("plan(0, 2, NONE)", x.plan(0, 2, NONE), 3);
        });
        // What the plan tells can be said, and is right.
        UntoldFacts x = told(FEWEST);
        for (int k = x.plan(0, 1, NONE); k > 0; k--) {
            int from = x.plan(0, 1, 0), f = x.plan(0, 1, 1);
            holds("SAFE when it comes", (x.safe(from, 1 - from) >> f & 1) == 1);
            due("say(" + from + ", .., " + f + ", 0)", x.say(from, 1 - from, f, 0), 0);
        }
        knownIs(x, 15, 15);
    }

    private static void planCall() {
        UntoldFacts x = told(PLAIN);
        for (int[] n : NO_TWO) {
            for (int i = -1; i < 2; i++) due("plan(" + n[0] + ", " + n[1] + ", " + i + ")", x.plan(n[0], n[1], i), UNKNOWN);
        }
        due("plan(0, 1, -1)", x.plan(0, 1, -1), 6);
        due("plan(0, 1, 10)", x.plan(0, 1, 10), 1);
        due("plan(0, 1, 11)", x.plan(0, 1, 11), 5);
        for (int i : new int[] {12, 13, 14, 64, HIGH, -2, -3, LOW}) due("plan(0, 1, " + i + ")", x.plan(0, 1, i), NONE);
        due("plan(0, 2, 4)", x.plan(0, 2, 4), 0);
        due("plan(0, 2, 5)", x.plan(0, 2, 5), 2);
        due("plan(0, 2, 6), of a longer plan ahead", x.plan(0, 2, 6), NONE);
        due("plan(0, 2, 7), of a longer plan ahead", x.plan(0, 2, 7), NONE);
        UntoldFacts none = told(ONE);
        due("plan(0, 1, -1), nothing to say", none.plan(0, 1, -1), 0);
        due("plan(0, 1, 0), nothing to say", none.plan(0, 1, 0), NONE);
        due("plan(0, 1, 1), nothing to say", none.plan(0, 1, 1), NONE);
        noPlan(told(SEVEN), 2, 3);
    }

    // ---- counts of hats

    private static void leastHats() {
        int[][] alone = {{1, 2}, {2, 3}, {3, 2}, {4, 3}, {6, 4}, {12, 5}, {60, 7}, {84, 5}, {99, 2}, {98, 3}, {30, 4}};
        for (int[] a : alone) {
            for (int d = 1; d <= 6; d++) due("hats(" + d + ") of a FACT of " + a[0], told("fact " + a[0] + ";").hats(d), a[1]);
        }
        due("hats(6), the greatest", told("fact 57;fact 5;fact 73;fact 89;fact 97;fact 20;").hats(6), 99);
        due("hats(6), 98", told("fact 21;fact 16;fact 68;fact 54;fact 41;fact 83;").hats(6), 98);
        due("hats(6), it would be 100", told("fact 56;fact 4;fact 30;fact 72;fact 83;fact 92;").hats(6), NONE);
        due("hats(6), it would be 101", told("fact 30;fact 52;fact 98;fact 90;fact 6;fact 83;").hats(6), NONE);
        due("hats(6), not by M", told("hats 2;fact 1;fact 2;fact 4;").hats(6), 8);
        due("hats(6), of all 64", told("fact 1;fact 2;fact 4;fact 8;fact 16;fact 32;").hats(6), 64);
        // CLOSED ones alone: {}, {1}, {0, 1} have sums 0, 1, 2.
        due("hats(2), CLOSED ones", told("fact 1;fact 1 follows 0;").hats(2), 3);
        due("hats(1), CLOSED ones", told("fact 1;fact 1 follows 0;").hats(1), 2);
        due("hats(2), like ones", told("fact 1;fact 1;").hats(2), NONE);
        // The whole differs from nothing by 6 * 99, from its neighbours by 99 each.
        String great = "fact 99;fact 99 follows 0;fact 99 follows 1;fact 99 follows 2;fact 99 follows 3;fact 99 follows 4;";
        due("hats(1), great sums", told(great).hats(1), 2);
        due("hats(6), 99, 198 .. 594", told(great).hats(6), 7);
    }

    /** What was counted ahead, for a greater d or another town, leaves nothing behind. */
    private static void hatsOneAfterTheOther() {
        UntoldFacts x = told("fact 5;fact 5;");
        due("hats(2)", x.hats(2), NONE);
        due("hats(1)", x.hats(1), 2);
        UntoldFacts y = told("fact 99;fact 99 follows 0;fact 99 follows 1;fact 99 follows 2;fact 99 follows 3;fact 99 follows 4;");
        due("hats(6)", y.hats(6), 7);
        due("hats(1)", y.hats(1), 2);
        feedAll(y, "fact 2;");
        y.town();
        due("hats(1) of another town", y.hats(1), 3);
        y.town();
        due("hats(6) of nothing", y.hats(6), 2);
    }

    private static void oneToD() {
        // Sums 0 to 7; SETS that differ in two FACTS can differ by 1, 2, 3, 5, 6; in three by 1, 3, 5, 7.
        UntoldFacts x = told("fact 1;fact 2;fact 4;");
        due("hats(1), 1 2 4", x.hats(1), 3);
        due("hats(2), also 1 2 3 5 6", x.hats(2), 7);
        due("hats(3), also 7", x.hats(3), 8);
        due("hats(4), there are no more", x.hats(4), 8);
        due("hats(6), there are no more", x.hats(6), 8);
        UntoldFacts y = told("fact 5;fact 5;fact 10;");
        due("hats(1)", y.hats(1), 3);
        due("hats(2), {0} and {1}", y.hats(2), NONE);
        UntoldFacts z = told("fact 5;fact 7;fact 12;");
        due("hats(2), 5 7 12, 2 12, 7 17, 5 19", z.hats(2), 8);
        due("hats(3), {0, 1} and {2}", z.hats(3), NONE);
        UntoldFacts w = told("fact 20;fact 83;fact 32;fact 61;fact 19;fact 78;");
        due("hats(4)", w.hats(4), 99);
        due("hats(5)", w.hats(5), NONE);
    }

    private static void hatsCall() {
        UntoldFacts x = told(PLAIN);
        for (int d : new int[] {0, 7, 8, -1, LOW, HIGH}) {
            due("hats(" + d + ")", x.hats(d), OUTSIDE);
            due("hats(" + d + ") of nothing", new UntoldFacts().hats(d), OUTSIDE);
        }
        for (int d = 1; d <= 6; d++) due("hats(" + d + ") of nothing", new UntoldFacts().hats(d), 2);
        due("hats(1)", x.hats(1), 3);
        due("hats(6)", x.hats(6), 64);
    }

    // ---- what is common

    private static void common() {
        UntoldFacts x = told("hats 99;fact 1;fact 2;fact 4;person knows 0,1,2;person knows 0,1;person knows 1,2;");
        due("common(0, 1, 2), both", x.common(0, 1, 2), 2);
        due("common(1, 0, 2)", x.common(1, 0, 2), 6);
        due("common(2, 0, 1)", x.common(2, 0, 1), 3);
        due("common(2, 1, 0)", x.common(2, 1, 0), 3);
        x.say(0, 1, 2, 0);
        due("common(2, 0, 1), who did not listen", x.common(2, 0, 1), 3);
        due("common(1, 0, 2), not what c knows of itself", x.common(1, 0, 2), 6);
        due("common(0, 1, 2), who said it", x.common(0, 1, 2), 6);
        UntoldFacts y = told(PLAIN);
        due("common(2, 0, 1), nothing", y.common(2, 0, 1), 0);
        y.say(0, 1, 0, 4);
        due("common(2, 0, 1), who listened", y.common(2, 0, 1), 1);
        UntoldFacts z = told(ONE);
        due("common(2, 0, 1), all", z.common(2, 0, 1), 1);
        z.silent(0, 2);
        due("common(2, 0, 1), no SETS of 0", z.common(2, 0, 1), 0);
        due("common(2, 1, 0), no SETS of 0", z.common(2, 1, 0), 0);
    }

    private static void commonCall() {
        UntoldFacts x = told(PLAIN);
        int[][] no = {{0, 0, 1}, {0, 1, 0}, {1, 0, 0}, {0, 0, 0}, {2, 2, 1}, {2, 1, 2}, {1, 2, 2}, {3, 0, 1}, {0, 3, 1}, {0, 1, 3},
            {-1, 0, 1}, {0, -1, 1}, {0, 1, -1}, {3, 3, 3}, {3, 4, 5}, {LOW, 0, 1}, {0, HIGH, 1}, {0, 1, LOW}, {32, 0, 1}};
        for (int[] n : no) due("common(" + n[0] + ", " + n[1] + ", " + n[2] + ")", x.common(n[0], n[1], n[2]), UNKNOWN);
        due("common(0, 1, 2)", x.common(0, 1, 2), 0);
        UntoldFacts two = told("fact 1;person;person;");
        due("common(0, 1, 2) of two", two.common(0, 1, 2), UNKNOWN);
        due("common(0, 1, 0) of two", two.common(0, 1, 0), UNKNOWN);
        due("common(4, 3, 2) of five", told("person;person;person;person;person;").common(4, 3, 2), 0);
    }

    // ---- what was known

    private static void knewByHat() {
        UntoldFacts x = told(SEVEN);
        knewIs(x, 0, 5, 11);
        knewIs(x, 1, 2, 8, 15);
        knewIs(x, 2, 0, 13);
        knewIs(x, 3, 5, 11);
        // From the MORNING on, by the new HAT: THE LOG is empty.
        x.say(1, 2, 1, 0);
        knewIs(x, 2, 0, 13);
        knewIs(x, 1, 2, 15);
        x.morning();
        knewIs(x, 2, 2, 8, 15);
        knewIs(x, 1, 2, 8, 15);
        UntoldFacts y = told(BLIND);
        due("knew(0, -1), all", y.knew(0, -1), 64);
        due("knew(0, 63)", y.knew(0, 63), 63);
        due("knew(0, 64)", y.knew(0, 64), NONE);
        knewIs(told("person;"), 0, 0);
        // Silences are not in THE LOG.
        UntoldFacts z = told(SEVEN);
        z.silent(0, 2);
        knewIs(z, 0, 5, 11);
    }

    private static void knewByLog() {
        UntoldFacts x = told(FOUR);
        for (int q = 0; q < 3; q++) knewIs(x, q, 0, 1, 2, 3);
        due("say(0, 1, 0, 0)", x.say(0, 1, 0, 0), 0);
        knewIs(x, 0, 1, 3);
        knewIs(x, 1, 0, 2);
        knewIs(x, 2, 0, 1, 2, 3);
        due("say(1, 2, 0, 0), an INSULT", x.say(1, 2, 0, 0), 1);
        knewIs(x, 0, 1, 3);
        knewIs(x, 1, 0, 2);
        knewIs(x, 2, 1, 3);
        due("say(0, 2, 1, 0)", x.say(0, 2, 1, 0), 0);
        knewIs(x, 0, 3);
        knewIs(x, 2, 1);
        knewIs(x, 1, 0, 2);
        due("say(2, 1, 1, 0)", x.say(2, 1, 1, 0), 0);
        knewIs(x, 1, 0);
    }

    private static void knewLearns() {
        UntoldFacts x = told(FOUR);
        due("say(0, 1, 1, 4), 2 listens", x.say(0, 1, 1, 4), 0);
        knewIs(x, 2, 0, 1, 2, 3);
        due("say(2, 1, 1, 0), what it listened to", x.say(2, 1, 1, 0), 1);
        knewIs(x, 2, 0, 1, 2, 3);
        knewIs(x, 1, 0, 1);
        due("say(0, 2, 1, 0), what it listened to", x.say(0, 2, 1, 0), 1);
        knewIs(x, 2, 0, 1, 2, 3);
        due("say(0, 1, 1, 0), what it heard", x.say(0, 1, 1, 0), 1);
        knewIs(x, 1, 0, 1);
        due("say(1, 0, 1, 0), what it heard", x.say(1, 0, 1, 0), 1);
        knewIs(x, 1, 0, 1);
        // What follows from what it learns is learned, too.
        UntoldFacts y = told("hats 2;fact 1;fact 2 follows 0;person knows 0;person;person;");
        y.say(0, 1, 0, 4);
        knewIs(y, 1, 0, 2);
        due("say(1, 2, 1, 0)", y.say(1, 2, 1, 0), 1);
        knewIs(y, 1, 0, 2);
        knewIs(y, 2, 0, 2);
        UntoldFacts z = told("hats 2;fact 1;fact 2 follows 0;person knows 0;person;person;");
        due("say(0, 1, 1, 0), not yet", z.say(0, 1, 1, 0), 0);
        knewIs(z, 1, 0);
    }

    private static void knewCall() {
        UntoldFacts x = told(SEVEN);
        for (int q : new int[] {-1, 4, 5, 32, LOW, HIGH}) {
            for (int i = -1; i < 2; i++) due("knew(" + q + ", " + i + ")", x.knew(q, i), UNKNOWN);
        }
        due("knew(1, 2)", x.knew(1, 2), 15);
        for (int i : new int[] {3, 4, 63, 64, HIGH, -2, LOW}) due("knew(1, " + i + ")", x.knew(1, i), NONE);
        due("knew(4, -1), five PERSONS", told("person;person;person;person;person;").knew(4, -1), 1);
    }

    // ---- bores

    private static void bore() {
        UntoldFacts x = told(ONE);
        due("bore(), each is SURE of 2", x.bore(), 0);
        x.silent(0, 2);
        due("bore(), 2 is SURE of 1", x.bore(), 2);
        // What they lack counts as what they know: 0 and 2 are SURE of 4, 1 of 2.
        UntoldFacts y = told("hats 4;fact 1;fact 3;person;person knows 0;person;");
        due("sure(1, 0, 1), {} or {0, 1}", y.sure(1, 0, 1), 0);
        due("sure(0, 1, 0)", y.sure(0, 1, 0), 1);
        due("sure(0, 1, 1)", y.sure(0, 1, 1), 2);
        due("bore(), 1 is SURE of nothing", y.bore(), 1);
        UntoldFacts z = told("hats 4;fact 1;fact 3;person knows 0;person;person knows 1;");
        due("bore(), 0 of 2, 1 of 4, 2 of 2", z.bore(), 0);
        z.say(0, 1, 0, 0);
        canKnowIs(z, 0, 1, 1);
        due("bore(), 0 of 4, 1 of 4, 2 of 2", z.bore(), 2);
    }

    private static void likeBores() {
        due("bore() of none", told("fact 1;").bore(), NONE);
        due("bore() of nothing", new UntoldFacts().bore(), NONE);
        due("bore() of one", told("fact 1;person;").bore(), 0);
        due("bore() of five, without FACTS", told("person;person;person;person;person;").bore(), 0);
        due("bore() of five alike", told("fact 1;person;person;person;person;person;").bore(), 0);
        UntoldFacts x = told("hats 99;fact 1;person knows 0;person;person knows 0;person knows 0;person;");
        x.silent(0, 1);
        due("bore(), 1", x.bore(), 1);
        x.silent(0, 4);
        due("bore(), 1 and 4 alike", x.bore(), 1);
        x.silent(2, 4);
        due("bore(), 4", x.bore(), 4);
    }

    private static void insults() {
        UntoldFacts x = told("hats 99;fact 1;person knows 0;person knows 0;person knows 0;person;person knows 0;");
        x.say(0, 1, 0, 28);
        x.say(4, 3, 0, 0);
        x.say(4, 0, 0, 0);
        int[] want = {1, 0, 0, 0, 2};
        for (int p = 0; p < 5; p++) due("person(" + p + ", 2)", x.person(p, 2), want[p]);
        x.morning();
        for (int p = 0; p < 5; p++) due("person(" + p + ", 2), behind a MORNING", x.person(p, 2), want[p]);
        for (int k = 0; k < 70; k++) x.say(4, 0, 0, 0);
        due("person(4, 2), more than THE LOG has", x.person(4, 2), 72);
        due("told(4)", x.told(4), 60);
    }
}
