/** REFUSALS: for each call that can refuse, which of several comes first, and that it changes nothing. */
public final class RefusalEdgeTests extends Check {
    private static final String FIRST = "of several the first in this order: UNKNOWN";
    private static final String NOTHING = "What is refused changes nothing.";
    private static final int[][] NO_TWO = {{0, 0}, {3, 3}, {-1, 0}, {0, -1}, {4, 0}, {0, 4}, {HIGH, 0}, {0, LOW}};

    public static void main(String[] args) {
        sentence("UNKNOWN (a FACT, PERSON, IMAGE that there is not; bits of such)", RefusalEdgeTests::whatThereIsNot);
        sentence("OUTSIDE (another number out of its bounds)", RefusalEdgeTests::outOfBounds);
        sentence("NOT (not now, as told)", RefusalEdgeTests::notNow);
        sentence(FIRST, RefusalEdgeTests::unknownAheadOfOutside);
        sentence(FIRST, RefusalEdgeTests::unknownAheadOfNot);
        sentence(FIRST, RefusalEdgeTests::unknownAheadOfFull);
        sentence(FIRST, RefusalEdgeTests::outsideAheadOfNot);
        sentence(FIRST, RefusalEdgeTests::outsideAheadOfFull);
        sentence(NOTHING, () -> same(RefusalEdgeTests::refusedFeeds));
        sentence(NOTHING, () -> same(RefusalEdgeTests::refusedSights));
        sentence(NOTHING, () -> same(RefusalEdgeTests::refusedSayings));
        sentence(NOTHING, () -> same(RefusalEdgeTests::refusedSilences));
        sentence(NOTHING, () -> same(RefusalEdgeTests::refusedParties));
        sentence(NOTHING, () -> same(RefusalEdgeTests::refusedPlans));
        sentence(NOTHING, () -> same(RefusalEdgeTests::refusedWritings));
        sentence(NOTHING, () -> same(RefusalEdgeTests::refusedDrifts));
        sentence(NOTHING, () -> same(RefusalEdgeTests::refusedSeeds));
        sentence(NOTHING, () -> same(RefusalEdgeTests::refusedImages));
        sentence(NOTHING, RefusalEdgeTests::refusedWhereFull);
        sentence(NOTHING, RefusalEdgeTests::refusedWhereFew);
        end("RefusalEdgeTests");
    }

    /** A town in which something of everything has happened. */
    private static void busy(UntoldFacts x) {
        feedAll(x, "hats 1;");
        x.town();
        x.say(0, 1, 0, 4);
        x.keep(0);
        x.say(0, 1, 0, 0);
        x.silent(3, 2);
        x.write(0, 2, 2);
        x.write(3, 0, 1);
        x.write(1, 0, 1);
        x.seed(77);
        x.keep(1);
        x.say(1, 2, 1, 0);
        feedAll(x, "person");
    }

    private static void same(Calls refused) {
        unchanged(SEVEN, RefusalEdgeTests::busy, refused);
    }

    // ---- each refusal

    private static void whatThereIsNot() {
        UntoldFacts x = told(SEVEN);
        for (int f : new int[] {-1, 4}) {
            due("fact(" + f + ", 0)", x.fact(f, 0), UNKNOWN);
            due("odds(0, 1, " + f + ")", x.odds(0, 1, f), UNKNOWN);
            due("say(0, 1, " + f + ", 0)", x.say(0, 1, f, 0), UNKNOWN);
            due("write(0, 1, " + f + ")", x.write(0, 1, f), UNKNOWN);
        }
        for (int p : new int[] {-1, 4}) {
            due("person(" + p + ", 0)", x.person(p, 0), UNKNOWN);
            due("knew(" + p + ", -1)", x.knew(p, -1), UNKNOWN);
        }
        for (int set : new int[] {16, 17, 31, -1, LOW}) {
            due("closed(" + set + ")", x.closed(set), UNKNOWN);
            due("party(" + set + ")", x.party(set), UNKNOWN);
            due("say(0, 1, 0, " + set + ")", x.say(0, 1, 0, set), UNKNOWN);
        }
        for (int i : new int[] {-1, 2}) {
            due("keep(" + i + ")", x.keep(i), UNKNOWN);
            due("goBack(" + i + ")", x.goBack(i), UNKNOWN);
        }
        due("closed(15)", x.closed(15), 15);
        due("fact(3, 0)", x.fact(3, 0), 9);
        due("person(3, 0)", x.person(3, 0), 11);
        due("keep(1)", x.keep(1), 1);
    }

    private static void outOfBounds() {
        UntoldFacts x = told(SEVEN);
        due("feed(0)", x.feed(0, 0L), OUTSIDE);
        due("feed(9)", x.feed(9, 0L), OUTSIDE);
        due("told(7)", x.told(7), OUTSIDE);
        due("fact(3, 3)", x.fact(3, 3), OUTSIDE);
        due("person(3, 4)", x.person(3, 4), OUTSIDE);
        due("sure(3, 2, 2)", x.sure(3, 2, 2), OUTSIDE);
        due("hats(0)", x.hats(0), OUTSIDE);
        due("hats(7)", x.hats(7), OUTSIDE);
        due("log(0, 5)", x.log(0, 5), OUTSIDE);
        due("drift(0, 0)", x.drift(0, 0), OUTSIDE);
        due("drift(1, 1000001)", x.drift(1, 1000001), OUTSIDE);
        due("seed(-1)", x.seed(-1), OUTSIDE);
    }

    private static void notNow() {
        UntoldFacts x = told(SEVEN);
        due("say(0, 1, 1, 0)", x.say(0, 1, 1, 0), NOT);
        due("say(1, 0, 1, 0), now", x.say(1, 0, 1, 0), 0);
        due("say(0, 1, 1, 0), now", x.say(0, 1, 1, 0), 1);
        due("goBack(0)", x.goBack(0), NOT);
        x.keep(0);
        due("goBack(0), now", x.goBack(0), 1);
        UntoldFacts y = told("person;");
        due("drift(1, 0)", y.drift(1, 0), NOT);
        feedAll(y, "person;person;");
        y.town();
        due("drift(1, 0), now", y.drift(1, 0), 0);
    }

    // ---- of several the first

    private static void unknownAheadOfOutside() {
        UntoldFacts x = told(SEVEN);
        for (int w : new int[] {-1, 3, HIGH}) {
            due("fact(4, " + w + ")", x.fact(4, w), UNKNOWN);
            due("fact(-1, " + w + ")", x.fact(-1, w), UNKNOWN);
        }
        for (int w : new int[] {-1, 4, HIGH}) {
            due("person(4, " + w + ")", x.person(4, w), UNKNOWN);
            due("person(-1, " + w + ")", x.person(-1, w), UNKNOWN);
        }
        for (int w : new int[] {-1, 2, HIGH}) {
            for (int[] n : NO_TWO) due("sure(" + n[0] + ", " + n[1] + ", " + w + ")", x.sure(n[0], n[1], w), UNKNOWN);
        }
    }

    private static void unknownAheadOfNot() {
        UntoldFacts x = told(SEVEN);
        due("say(0, 1, 1, 0), NOT alone", x.say(0, 1, 1, 0), NOT);
        for (int l : new int[] {1, 2, 16, -1}) due("say(0, 1, 1, " + l + ")", x.say(0, 1, 1, l), UNKNOWN);
        for (int[] n : NO_TWO) due("say(" + n[0] + ", " + n[1] + ", 3, 0)", x.say(n[0], n[1], 3, 0), UNKNOWN);
        due("say(2, 2, 0, 0)", x.say(2, 2, 0, 0), UNKNOWN);
        due("goBack(2), nothing was kept", x.goBack(2), UNKNOWN);
        due("goBack(-1), nothing was kept", x.goBack(-1), UNKNOWN);
    }

    private static void unknownAheadOfFull() {
        UntoldFacts x = told(SEVEN);
        for (int k = 0; k < 30; k++) x.write(0, 1, 0);
        due("write(0, 1, 0), FULL alone", x.write(0, 1, 0), FULL);
        for (int[] n : NO_TWO) due("write(" + n[0] + ", " + n[1] + ", 0)", x.write(n[0], n[1], 0), UNKNOWN);
        due("write(0, 1, 4)", x.write(0, 1, 4), UNKNOWN);
        due("write(0, 1, -1)", x.write(0, 1, -1), UNKNOWN);
    }

    private static void outsideAheadOfNot() {
        for (String few : new String[] {"", "person;"}) {
            UntoldFacts x = told(few);
            due("drift(1, 0), NOT alone", x.drift(1, 0), NOT);
            int[][] no = {{0, 0}, {100, 0}, {1, -1}, {1, 1000001}, {0, -1}};
            for (int[] n : no) due("drift(" + n[0] + ", " + n[1] + ")", x.drift(n[0], n[1]), OUTSIDE);
        }
    }

    private static void outsideAheadOfFull() {
        UntoldFacts x = new UntoldFacts();
        feedAll(x, " ".repeat(400));
        due("feed(1), FULL alone", x.feed(1, 32L), FULL);
        for (int n : new int[] {0, -1, 9, LOW, HIGH}) due("feed(" + n + ")", x.feed(n, 32L), OUTSIDE);
    }

    // ---- nothing is changed

    private static void refusedFeeds(UntoldFacts x) {
        for (int n : new int[] {0, -1, 9, LOW, HIGH}) due("feed(" + n + ")", x.feed(n, 0x3B3B3B3B3B3B3B3BL), OUTSIDE);
    }

    private static void refusedSights(UntoldFacts x) {
        due("told(7)", x.told(7), OUTSIDE);
        due("fact(4, 0)", x.fact(4, 0), UNKNOWN);
        due("person(0, 4)", x.person(0, 4), OUTSIDE);
        due("closed(16)", x.closed(16), UNKNOWN);
        due("canKnow(0, 0, -1)", x.canKnow(0, 0, -1), UNKNOWN);
        due("sure(0, 1, 2)", x.sure(0, 1, 2), OUTSIDE);
        due("safe(0, 4)", x.safe(0, 4), UNKNOWN);
        due("odds(0, 1, 4)", x.odds(0, 1, 4), UNKNOWN);
        due("best(4, 0)", x.best(4, 0), UNKNOWN);
        due("log(0, 5)", x.log(0, 5), OUTSIDE);
        due("hats(7)", x.hats(7), OUTSIDE);
        due("knew(4, -1)", x.knew(4, -1), UNKNOWN);
        due("common(0, 1, 1)", x.common(0, 1, 1), UNKNOWN);
    }

    private static void refusedSayings(UntoldFacts x) {
        for (int[] n : NO_TWO) due("say(" + n[0] + ", " + n[1] + ", 0, 0)", x.say(n[0], n[1], 0, 0), UNKNOWN);
        for (int f : new int[] {-1, 4, 32}) due("say(0, 1, " + f + ", 0)", x.say(0, 1, f, 0), UNKNOWN);
        for (int l : new int[] {1, 2, 5, 16, 20, -1, LOW}) due("say(0, 1, 0, " + l + ")", x.say(0, 1, 0, l), UNKNOWN);
        due("say(0, 1, 3, 4)", x.say(0, 1, 3, 4), NOT);
        due("say(2, 3, 2, 0)", x.say(2, 3, 2, 0), NOT);
    }

    private static void refusedSilences(UntoldFacts x) {
        for (int[] n : NO_TWO) due("silent(" + n[0] + ", " + n[1] + ")", x.silent(n[0], n[1]), UNKNOWN);
    }

    private static void refusedParties(UntoldFacts x) {
        for (int set : new int[] {16, 31, -1, LOW, HIGH}) due("party(" + set + ")", x.party(set), UNKNOWN);
    }

    private static void refusedPlans(UntoldFacts x) {
        for (int[] n : NO_TWO) due("plan(" + n[0] + ", " + n[1] + ", -1)", x.plan(n[0], n[1], -1), UNKNOWN);
    }

    private static void refusedWritings(UntoldFacts x) {
        for (int[] n : NO_TWO) due("write(" + n[0] + ", " + n[1] + ", 0)", x.write(n[0], n[1], 0), UNKNOWN);
        due("write(0, 1, 4)", x.write(0, 1, 4), UNKNOWN);
        due("write(0, 1, -1)", x.write(0, 1, -1), UNKNOWN);
    }

    private static void refusedDrifts(UntoldFacts x) {
        int[][] no = {{0, 0}, {100, 0}, {-1, 0}, {1, -1}, {1, 1000001}, {LOW, HIGH}};
        for (int[] n : no) due("drift(" + n[0] + ", " + n[1] + ")", x.drift(n[0], n[1]), OUTSIDE);
    }

    private static void refusedSeeds(UntoldFacts x) {
        due("seed(-1)", x.seed(-1), OUTSIDE);
        due("seed(LOW)", x.seed(LOW), OUTSIDE);
    }

    private static void refusedImages(UntoldFacts x) {
        for (int i : new int[] {-1, 2, LOW, HIGH}) {
            due("keep(" + i + ")", x.keep(i), UNKNOWN);
            due("goBack(" + i + ")", x.goBack(i), UNKNOWN);
        }
    }

    private static void refusedWhereFull() {
        unchanged(ONE, x -> {
            feedAll(x, "person;" + " ".repeat(391));
            for (int k = 0; k < 30; k++) x.write(0, 2, 0);
        }, x -> {
            for (int n = 3; n <= 8; n++) due("feed(" + n + "), two have room", x.feed(n, 0x3B3B3B3B3B3B3B3BL), FULL);
            due("write(2, 0, 0)", x.write(2, 0, 0), FULL);
        });
    }

    private static void refusedWhereFew() {
        unchanged("fact 1;person knows 0;", x -> x.seed(5), x -> {
            due("drift(9, 0)", x.drift(9, 0), NOT);
            due("goBack(0)", x.goBack(0), NOT);
            due("goBack(1)", x.goBack(1), NOT);
        });
    }
}
