/** What there is and what each can see: the boundary cases of Terms, of section 2, and of promises 5 to 13. */
public final class SightEdgeTests extends Check {
    /** CLOSED: {}, {5}, {4, 5}, .. all; each has HAT 0. PERSONS know all and nothing. */
    private static final String CHAIN = "hats 2;fact 2;fact 2 follows 0;fact 2 follows 1;fact 2 follows 2;"
        + "fact 2 follows 3;fact 2 follows 4;person knows 0;person;";
    /** PERSONS that there are not, or one twice, where there are three. */
    private static final int[][] NO_TWO = {{0, 0}, {1, 1}, {2, 2}, {-1, 0}, {0, -1}, {3, 0}, {0, 3}, {3, 3}, {-1, -1},
        {HIGH, 0}, {0, HIGH}, {LOW, 0}, {0, LOW}, {32, 0}, {0, 32}};

    public static void main(String[] args) {
        terms();
        sets();
        calls();
        end("SightEdgeTests");
    }

    private static void terms() {
        sentence("An object is used for at most 512 calls after it has been made", SightEdgeTests::manyCalls);
        sentence("/ cuts towards 0", SightEdgeTests::cuts);
        sentence("What has a number has it from 0 on, as it comes.", SightEdgeTests::fromNought);
        sentence("A SET is a whole number, bit k for k", SightEdgeTests::bits);
        sentence("NONE is -1.", () -> due("NONE", UntoldFacts.NONE, -1));
        sentence("They are far below all that is counted: -1000000001 and on.", SightEdgeTests::constants);
        sentence("MILLION is 1000000.", SightEdgeTests::million);
    }

    private static void sets() {
        sentence("Who knows all FACTS that one FOLLOWS from knows it, too", SightEdgeTests::allOrNot);
        sentence("what anybody knows is CLOSED", SightEdgeTests::anybody);
        sentence("(One that FOLLOWS from none is not known by itself.)", SightEdgeTests::notByItself);
        sentence("HAT of a SET: the sum of WEIGHTS in it, left over by M.", SightEdgeTests::leftOver);
        sentence("A PERSON wears the HAT of what it knew in the MORNING", SightEdgeTests::morningHat);
        sentence("(at first: as told, CLOSED)", SightEdgeTests::firstHat);
        sentence("At first: all CLOSED SETS with q's HAT.", SightEdgeTests::firstSets);
        sentence("PLAIN lack of b: FACTS that no CLOSED SET with b's HAT has.", SightEdgeTests::plainLack);
        sentence("SURE that q knows: FACTS in all SETS that q CAN KNOW; SURE that q lacks: FACTS in none of them", SightEdgeTests::sure);
        sentence("(no FACT of either, if there are no SETS)", SightEdgeTests::sureWithoutSets);
        sentence("SAFE for a to b: FACTS that a knows and is SURE that b lacks.", SightEdgeTests::safe);
        sentence("that b lacks it (cut; 0 without SETS)", SightEdgeTests::odds);
        sentence("of what a knows that of the greatest ODDS; of like ones the least; NONE (it knows nothing)", SightEdgeTests::best);
    }

    private static void calls() {
        sentence("4 entries of THE LOG, 5 sayings of THE BOOK, 6 CLOSED SETS. OUTSIDE.", SightEdgeTests::told);
        sentence("what = 0 WEIGHT, 1 from what it FOLLOWS (a SET), 2 who knows it (a SET of PERSONS). UNKNOWN, OUTSIDE.", SightEdgeTests::factCall);
        sentence("2 INSULTS that it said, 3 its PLAIN lack (a SET). UNKNOWN, OUTSIDE.", SightEdgeTests::personCall);
        sentence("A SET CLOSED. UNKNOWN.", SightEdgeTests::closedCall);
        sentence("CAN KNOW: i = NONE how many SETS, else the i-th by rising numbers; NONE: not so many. UNKNOWN (one twice).", SightEdgeTests::canKnowCall);
        sentence("what = 0 SURE that q knows, 1 that q lacks (SETS). UNKNOWN (one twice), OUTSIDE.", SightEdgeTests::sureCall);
        sentence("SAFE (a SET). UNKNOWN (one twice).", SightEdgeTests::safeCall);
        sentence("ODDS, as a sees. UNKNOWN (one twice).", SightEdgeTests::oddsCall);
        sentence("BEST SAYING; NONE. UNKNOWN (one twice).", SightEdgeTests::bestCall);
    }

    // ---- terms

    /** The last of 512 calls is answered as the first ones; the dearest ones come to an end. */
    private static void manyCalls() {
        UntoldFacts x = new UntoldFacts();
        feedAll(x, "fact 1;person knows 0;person knows 0;");
        due("town(), the 6th call", x.town(), 2);
        for (int k = 7; k < 512; k++) x.say(k % 2, 1 - k % 2, 0, 0);
        due("person(0, 2), the 512th call", x.person(0, 2), 252);
        UntoldFacts y = told(PLAIN);
        for (int k = 0; k < 490; k++) due("plan(0, 1, 11)", y.plan(0, 1, 11), 5);
        UntoldFacts z = told(PLAIN);
        for (int k = 0; k < 490; k++) due("hats(6)", z.hats(6), 64);
    }

    private static void cuts() {
        UntoldFacts x = told(SEVEN);
        due("odds, 2 of 3", x.odds(0, 1, 0), 666666);
        due("odds, 1 of 3", x.odds(0, 1, 1), 333333);
        UntoldFacts y = told(CHAIN);
        due("odds, 1 of 7", y.odds(0, 1, 5), 142857);
        due("odds, 3 of 7", y.odds(0, 1, 3), 428571);
        due("odds, 6 of 7", y.odds(0, 1, 0), 857142);
    }

    private static void fromNought() {
        UntoldFacts x = told("fact 11;fact 22;person knows 1;person knows 0;");
        due("fact(0, 0)", x.fact(0, 0), 11);
        due("fact(1, 0)", x.fact(1, 0), 22);
        knownIs(x, 2, 1);
        x.say(1, 0, 0, 0);
        x.say(0, 1, 1, 0);
        logIs(x, 0, 1, 0, 0, 0, 0);
        logIs(x, 1, 0, 1, 1, 0, 0);
        x.write(0, 1, 0);
        due("judge(), the first", x.judge(), 0);
    }

    private static void bits() {
        UntoldFacts x = told("hats 99;fact 1;fact 1;fact 1;fact 1;fact 1;fact 1;person;person;person;person;person knows 0,5;");
        due("person(4, 0)", x.person(4, 0), 33);
        due("fact(0, 2)", x.fact(0, 2), 16);
        due("fact(1, 2)", x.fact(1, 2), 0);
        due("say(4, 0, 5, 10)", x.say(4, 0, 5, 10), 0);
        due("fact(5, 2)", x.fact(5, 2), 27);
    }

    private static void constants() {
        due("UNKNOWN", UntoldFacts.UNKNOWN, -1000000001);
        due("OUTSIDE", UntoldFacts.OUTSIDE, -1000000002);
        due("NOT", UntoldFacts.NOT, -1000000003);
        due("FULL", UntoldFacts.FULL, -1000000004);
    }

    private static void million() {
        UntoldFacts x = told(ONE);
        due("odds, all lack it", x.odds(0, 2, 0), 1000000);
        due("odds, none lacks it", x.odds(0, 1, 0), 0);
    }

    // ---- sets

    private static void allOrNot() {
        UntoldFacts x = told("fact 1;fact 1;fact 1;fact 1;fact 1;fact 1 follows 0,1,2,3,4;");
        due("closed(31), all", x.closed(31), 63);
        for (int f = 0; f < 5; f++) due("closed, all but " + f, x.closed(31 - (1 << f)), 31 - (1 << f));
        due("closed(32), what follows alone", x.closed(32), 32);
        UntoldFacts y = told(CHAIN);
        due("closed(1), a chain to its end", y.closed(1), 63);
        due("closed(16), the last but one", y.closed(16), 48);
        due("closed(32), the last", y.closed(32), 32);
        due("closed(4), not what is ahead", y.closed(4), 60);
    }

    private static void anybody() {
        UntoldFacts x = told("hats 99;fact 1;fact 2;fact 4 follows 0,1;person knows 0;person knows 1;person knows 1;person knows 0,1;");
        knownIs(x, 1, 2, 2, 7);
        x.say(0, 1, 0, 4);
        knownIs(x, 1, 7, 7, 7);
        due("fact(2, 2)", x.fact(2, 2), 14);
    }

    private static void notByItself() {
        UntoldFacts x = told("fact 1;fact 2;fact 3;fact 4;fact 5;fact 6;person;person;");
        due("closed(0)", x.closed(0), 0);
        knownIs(x, 0, 0);
        due("told(6)", x.told(6), 64);
        due("told(6), of one", told("fact 1;").told(6), 2);
    }

    private static void leftOver() {
        String[] texts = {"hats 50;fact 49;", "hats 49;fact 49;", "hats 48;fact 49;", "hats 2;fact 1;", "hats 2;fact 2;", "hats 99;fact 98;", "hats 99;fact 99;"};
        int[] hats = {49, 0, 1, 1, 0, 98, 0};
        for (int k = 0; k < texts.length; k++) due(texts[k], told(texts[k] + "person knows 0;").person(0, 1), hats[k]);
        String most = "fact 99;fact 99;fact 99;fact 99;fact 99;fact 99;person knows 0,1,2,3,4,5;";
        due("the greatest sum, by 99", told("hats 99;" + most).person(0, 1), 0);
        due("the greatest sum, by 98", told("hats 98;" + most).person(0, 1), 594 % 98);
        due("the greatest sum, by 97", told("hats 97;" + most).person(0, 1), 594 % 97);
        due("the greatest sum, by 10", told(most).person(0, 1), 4);
        due("the sum of nothing", told("fact 7;person;").person(0, 1), 0);
        due("without FACTS", told("person;").person(0, 1), 0);
    }

    private static void morningHat() {
        UntoldFacts x = told(ONE);
        x.say(0, 2, 0, 0);
        due("person(2, 0)", x.person(2, 0), 1);
        due("person(2, 1), the HAT stays", x.person(2, 1), 0);
        canKnowIs(x, 1, 2, 0);
        x.morning();
        due("person(2, 1), anew", x.person(2, 1), 1);
    }

    private static void firstHat() {
        UntoldFacts x = told("hats 99;fact 5;fact 7 follows 0;fact 11 follows 1;person knows 0;person knows 1;person knows 2;person;");
        knownIs(x, 7, 6, 4, 0);
        hatsAre(x, 23, 18, 11, 0);
    }

    private static void firstSets() {
        canKnowIs(told(PLAIN), 0, 1, 56);
        canKnowIs(told(CHAIN), 0, 1, 0, 32, 48, 56, 60, 62, 63);
        UntoldFacts x = told(BLIND);
        due("canKnow, all 64", x.canKnow(0, 1, NONE), 64);
        for (int i = 0; i < 64; i++) due("canKnow(0, 1, " + i + ")", x.canKnow(0, 1, i), i);
        due("canKnow(0, 1, 64)", x.canKnow(0, 1, 64), NONE);
        UntoldFacts none = told("person;person;");
        canKnowIs(none, 0, 1, 0);
        UntoldFacts y = told(SEVEN);
        for (int p = 0; p < 4; p++) {
            if (p != 0) canKnowIs(y, p, 0, 5, 11);
            if (p != 1) canKnowIs(y, p, 1, 2, 8, 15);
            if (p != 2) canKnowIs(y, p, 2, 0, 13);
            if (p != 3) canKnowIs(y, p, 3, 5, 11);
        }
    }

    private static void plainLack() {
        UntoldFacts x = told(PLAIN);
        due("person(0, 3)", x.person(0, 3), 56);
        due("person(1, 3)", x.person(1, 3), 7);
        due("person(2, 3), all", x.person(2, 3), 63);
        due("person(0, 3), none", told(BLIND).person(0, 3), 0);
        due("person(0, 3), who knows all", told("hats 99;fact 1;person knows 0;").person(0, 3), 0);
        // {0} has that HAT, too, but is not CLOSED.
        due("person(0, 3), CLOSED ones alone", told("hats 99;fact 3;fact 1;fact 2 follows 0;person knows 1,2;").person(0, 3), 1);
        UntoldFacts y = told(ONE);
        y.say(0, 2, 0, 0);
        due("person(2, 3), by its HAT, not by what it knows", y.person(2, 3), 1);
        y.morning();
        due("person(2, 3), by the new HAT", y.person(2, 3), 0);
        due("person(0, 3), without FACTS", told("person;").person(0, 3), 0);
    }

    private static void sure() {
        UntoldFacts x = told(SEVEN);
        due("sure(0, 3, 0), in all of 5, 11", x.sure(0, 3, 0), 1);
        due("sure(0, 3, 1), in none of 5, 11", x.sure(0, 3, 1), 0);
        due("sure(0, 1, 0), of 2, 8, 15", x.sure(0, 1, 0), 0);
        due("sure(0, 2, 1), of 0, 13", x.sure(0, 2, 1), 2);
        UntoldFacts y = told(PLAIN);
        due("sure(2, 0, 0), of one SET", y.sure(2, 0, 0), 7);
        due("sure(2, 0, 1), of one SET", y.sure(2, 0, 1), 56);
        due("sure(0, 2, 0), of the empty SET", y.sure(0, 2, 0), 0);
        due("sure(0, 2, 1), of the empty SET", y.sure(0, 2, 1), 63);
        UntoldFacts z = told(BLIND);
        due("sure(0, 1, 0), of all SETS", z.sure(0, 1, 0), 0);
        due("sure(0, 1, 1), of all SETS", z.sure(0, 1, 1), 0);
    }

    private static void sureWithoutSets() {
        UntoldFacts x = told(PLAIN);
        due("silent(0, 2)", x.silent(0, 2), 1);
        canKnowIs(x, 2, 0);
        due("sure(2, 0, 0)", x.sure(2, 0, 0), 0);
        due("sure(2, 0, 1)", x.sure(2, 0, 1), 0);
        due("say(1, 2, 3, 0)", x.say(1, 2, 3, 0), 0);
        due("safe(2, 0), without SETS nothing is", x.safe(2, 0), 0);
        due("common(2, 0, 1)", x.common(2, 0, 1), 0);
    }

    private static void safe() {
        UntoldFacts x = told(PLAIN);
        due("safe(0, 1)", x.safe(0, 1), 7);
        due("safe(0, 2)", x.safe(0, 2), 7);
        due("safe(1, 0)", x.safe(1, 0), 56);
        due("safe(2, 0), who knows nothing", x.safe(2, 0), 0);
        UntoldFacts y = told(SEVEN);
        due("safe(0, 2), who does not know what 2 lacks", y.safe(0, 2), 0);
        due("safe(1, 2)", y.safe(1, 2), 2);
        due("safe(3, 2), of all that it knows", y.safe(3, 2), 2);
        due("safe(0, 1), 1 lacks it, but 0 is not sure", y.safe(0, 1), 0);
        y.say(1, 2, 1, 0);
        due("safe(1, 2), said already", y.safe(1, 2), 0);
        due("safe(3, 2), which did not listen", y.safe(3, 2), 2);
    }

    private static void odds() {
        UntoldFacts x = told(BLIND);
        for (int f = 0; f < 6; f++) due("odds(0, 1, " + f + "), 32 of 64", x.odds(0, 1, f), 500000);
        UntoldFacts y = told(PLAIN);
        y.silent(0, 2);
        for (int f = 0; f < 6; f++) due("odds(2, 0, " + f + ") without SETS", y.odds(2, 0, f), 0);
        due("odds(2, 1, 0), that it lacks", y.odds(2, 1, 0), 1000000);
        due("odds(2, 1, 3), that it knows", y.odds(2, 1, 3), 0);
    }

    private static void best() {
        UntoldFacts x = told(SEVEN);
        due("best(3, 2), the greatest", x.best(3, 2), 1);
        due("best(0, 2), of what it knows", x.best(0, 2), 0);
        due("best(0, 1), of like ones", x.best(0, 1), 0);
        due("best(2, 0), who knows nothing", x.best(2, 0), NONE);
        due("best(0, 1), ODDS 0 are ODDS", told(ONE).best(0, 1), 0);
        due("best(0, 1), the greatest is the first", told(CHAIN).best(0, 1), 0);
        UntoldFacts y = told("hats 99;fact 1;fact 2;fact 4;fact 8;fact 16;fact 32;person knows 5;person knows 0,1,2,3,4;");
        due("best(0, 1), the last", y.best(0, 1), 5);
        due("best(1, 0), of like ones", y.best(1, 0), 0);
        UntoldFacts z = told(PLAIN);
        z.say(0, 2, 2, 0);
        z.silent(1, 2);
        canKnowIs(z, 2, 1);
        due("best(2, 1), without SETS", z.best(2, 1), 2);
        due("best(0, 1), without FACTS", told("person;person;").best(0, 1), NONE);
    }

    // ---- calls

    private static void told() {
        UntoldFacts x = told(SEVEN);
        x.say(0, 1, 0, 0);
        x.say(0, 1, 0, 0);
        x.write(0, 1, 0);
        x.write(0, 1, 0);
        x.write(0, 1, 0);
        x.feed(5, 0L);
        int[] want = {4, 4, 7, 5, 2, 3, 14};
        for (int w = 0; w < 7; w++) due("told(" + w + ")", x.told(w), want[w]);
        for (int w : new int[] {-1, 7, 8, LOW, HIGH}) due("told(" + w + ")", x.told(w), OUTSIDE);
        due("told(6), without FACTS", told("person;").told(6), 1);
        due("told(6), a chain of six", told(CHAIN).told(6), 7);
        due("told(6), all", told(BLIND).told(6), 64);
        due("told(6), all but one", told("fact 1;fact 1;fact 1;fact 1;fact 1;fact 1 follows 0,1,2,3,4;").told(6), 63);
    }

    private static void factCall() {
        UntoldFacts x = told("fact 1;fact 99;fact 1;fact 1;fact 1;fact 98 follows 0,4;person;person knows 5;person;person;person knows 0,4;");
        due("fact(0, 0)", x.fact(0, 0), 1);
        due("fact(1, 0)", x.fact(1, 0), 99);
        due("fact(5, 0)", x.fact(5, 0), 98);
        due("fact(0, 1)", x.fact(0, 1), 0);
        due("fact(5, 1)", x.fact(5, 1), 17);
        due("fact(0, 2)", x.fact(0, 2), 16);
        due("fact(1, 2), nobody", x.fact(1, 2), 0);
        due("fact(5, 2), who was told, and who knows by what it follows from", x.fact(5, 2), 18);
        for (int f : new int[] {-1, 6, 7, 32, LOW, HIGH}) {
            for (int w = 0; w < 3; w++) due("fact(" + f + ", " + w + ")", x.fact(f, w), UNKNOWN);
            for (int w : new int[] {-1, 3}) due("fact(" + f + ", " + w + "), both refusals", x.fact(f, w), UNKNOWN);
        }
        for (int w : new int[] {-1, 3, 4, LOW, HIGH}) {
            due("fact(0, " + w + ")", x.fact(0, w), OUTSIDE);
            due("fact(5, " + w + ")", x.fact(5, w), OUTSIDE);
        }
        due("fact(1, 0), a FACT fewer", told("fact 1;").fact(1, 0), UNKNOWN);
        due("fact(0, 2), all five", told("fact 1;person knows 0;person knows 0;person knows 0;person knows 0;person knows 0;").fact(0, 2), 31);
    }

    private static void personCall() {
        UntoldFacts x = told("hats 99;fact 1;fact 2;person;person;person;person;person knows 0;");
        int[] want = {1, 1, 0, 2};
        for (int w = 0; w < 4; w++) due("person(4, " + w + ")", x.person(4, w), want[w]);
        x.say(4, 0, 0, 0);
        due("person(4, 2), no INSULT", x.person(4, 2), 0);
        x.say(4, 0, 0, 0);
        x.say(0, 4, 0, 0);
        x.say(4, 0, 0, 0);
        due("person(4, 2)", x.person(4, 2), 2);
        due("person(0, 2)", x.person(0, 2), 1);
        due("person(1, 2)", x.person(1, 2), 0);
        for (int p : new int[] {-1, 5, 6, 32, LOW, HIGH}) {
            for (int w = 0; w < 4; w++) due("person(" + p + ", " + w + ")", x.person(p, w), UNKNOWN);
            for (int w : new int[] {-1, 4}) due("person(" + p + ", " + w + "), both refusals", x.person(p, w), UNKNOWN);
        }
        for (int w : new int[] {-1, 4, 5, LOW, HIGH}) {
            due("person(0, " + w + ")", x.person(0, w), OUTSIDE);
            due("person(4, " + w + ")", x.person(4, w), OUTSIDE);
        }
        due("person(1, 0), a PERSON fewer", told("person;").person(1, 0), UNKNOWN);
    }

    private static void closedCall() {
        for (int n = 0; n <= 6; n++) {
            UntoldFacts x = told("fact 1;".repeat(n));
            due("closed(0) of " + n, x.closed(0), 0);
            due("closed, all of " + n, x.closed((1 << n) - 1), (1 << n) - 1);
            due("closed, a bit more of " + n, x.closed(1 << n), UNKNOWN);
            due("closed, a bit more with all of " + n, x.closed((2 << n) - 1), UNKNOWN);
            for (int s : new int[] {-1, 64, 127, 1 << 30, LOW, HIGH}) due("closed(" + s + ") of " + n, x.closed(s), UNKNOWN);
        }
    }

    private static void canKnowCall() {
        UntoldFacts x = told(PLAIN);
        for (int[] n : NO_TWO) {
            for (int i = -1; i < 2; i++) due("canKnow(" + n[0] + ", " + n[1] + ", " + i + ")", x.canKnow(n[0], n[1], i), UNKNOWN);
        }
        due("canKnow(0, 1, -1)", x.canKnow(0, 1, -1), 1);
        due("canKnow(0, 1, 0)", x.canKnow(0, 1, 0), 56);
        for (int i : new int[] {1, 2, 56, 64, 65, HIGH, -2, LOW}) due("canKnow(0, 1, " + i + ")", x.canKnow(0, 1, i), NONE);
        canKnowIs(x, 2, 1, 56);
        x.silent(0, 2);
        due("canKnow(2, 0, -1), no SETS", x.canKnow(2, 0, -1), 0);
        due("canKnow(2, 0, 0), no SETS", x.canKnow(2, 0, 0), NONE);
        due("canKnow(0, 1, -1), one PERSON", told("person;").canKnow(0, 1, -1), UNKNOWN);
        due("canKnow(4, 3, -1), five PERSONS", told("person;person;person;person;person;").canKnow(4, 3, -1), 1);
    }

    private static void sureCall() {
        UntoldFacts x = told(PLAIN);
        for (int[] n : NO_TWO) {
            for (int w = -1; w < 3; w++) due("sure(" + n[0] + ", " + n[1] + ", " + w + ")", x.sure(n[0], n[1], w), UNKNOWN);
        }
        for (int w : new int[] {-1, 2, 3, LOW, HIGH}) due("sure(2, 1, " + w + ")", x.sure(2, 1, w), OUTSIDE);
        due("sure(2, 1, 0)", x.sure(2, 1, 0), 56);
        due("sure(2, 1, 1)", x.sure(2, 1, 1), 7);
    }

    private static void safeCall() {
        UntoldFacts x = told(PLAIN);
        for (int[] n : NO_TWO) due("safe(" + n[0] + ", " + n[1] + ")", x.safe(n[0], n[1]), UNKNOWN);
        due("safe(1, 2)", x.safe(1, 2), 56);
        due("safe(2, 1)", x.safe(2, 1), 0);
    }

    private static void oddsCall() {
        UntoldFacts x = told(PLAIN);
        for (int[] n : NO_TWO) due("odds(" + n[0] + ", " + n[1] + ", 0)", x.odds(n[0], n[1], 0), UNKNOWN);
        for (int f : new int[] {-1, 6, 7, 32, 64, LOW, HIGH}) due("odds(0, 1, " + f + ")", x.odds(0, 1, f), UNKNOWN);
        due("odds(0, 1, 5), which a does not know", x.odds(0, 1, 5), 0);
        due("odds(0, 2, 5), which a does not know", x.odds(0, 2, 5), 1000000);
        x.say(0, 2, 0, 0);
        due("odds(0, 2, 0), as 0 sees", x.odds(0, 2, 0), 0);
        due("odds(1, 2, 0), as 1 sees", x.odds(1, 2, 0), 1000000);
        due("odds(0, 1, 1), a FACT fewer", told("fact 1;person;person;").odds(0, 1, 1), UNKNOWN);
    }

    private static void bestCall() {
        UntoldFacts x = told(PLAIN);
        for (int[] n : NO_TWO) due("best(" + n[0] + ", " + n[1] + ")", x.best(n[0], n[1]), UNKNOWN);
        due("best(1, 2)", x.best(1, 2), 3);
        due("best(2, 1)", x.best(2, 1), NONE);
    }
}
