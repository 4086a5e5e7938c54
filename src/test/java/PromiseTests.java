import java.util.List;

/** A method for each promise: ordinary inputs, the edges that the document names, wrong inputs. */
public final class PromiseTests extends Check {
    public static void main(String[] args) {
        promise1(); promise2(); promise3(); promise4(); promise5(); promise6();
        promise7(); promise8(); promise9(); promise10(); promise11(); promise12();
        promise13(); promise14(); promise15(); promise16(); promise17(); promise18();
        promise19(); promise20(); promise21(); promise22(); promise23(); promise24();
        promise25(); promise26(); promise27(); promise28(); promise29(); promise30();
        end("PromiseTests");
    }

    // ---- the town

    private static void promise1() {
        about = "promise 1";
        UntoldFacts x = new UntoldFacts();
        int[] want = {0, 0, 10, 0, 0, 0, 1};
        for (int w = 0; w < 7; w++) due("told(" + w + ")", x.told(w), want[w]);
        due("fault()", x.fault(), NONE);
        due("fact(0, 0)", x.fact(0, 0), UNKNOWN);
        due("person(0, 0)", x.person(0, 0), UNKNOWN);
        due("closed(0)", x.closed(0), 0);
        due("closed(1)", x.closed(1), UNKNOWN);
        due("canKnow(0, 1, 0)", x.canKnow(0, 1, 0), UNKNOWN);
        due("say(0, 1, 0, 0)", x.say(0, 1, 0, 0), UNKNOWN);
        due("silent(0, 1)", x.silent(0, 1), UNKNOWN);
        due("morning()", x.morning(), 0);
        due("party(0)", x.party(0), 0);
        due("party(1)", x.party(1), UNKNOWN);
        due("hats(6)", x.hats(6), 2);
        due("bore()", x.bore(), NONE);
        due("judge()", x.judge(), NONE);
        due("tear()", x.tear(), 0);
        due("log(0, 0)", x.log(0, 0), NONE);
        due("drift(1, 0)", x.drift(1, 0), NOT);
        due("goBack(0)", x.goBack(0), NOT);
        due("seed(1)", x.seed(1), 0);
    }

    private static void promise2() {
        about = "promise 2";
        UntoldFacts x = new UntoldFacts();
        due("feed(1)", x.feed(1, 0x0102030405060770L), 1);
        due("feed(6)", x.feed(6, 0x7777_6572736F6E3BL), 7);
        due("town() of 'person;'", x.town(), 1);
        due("feed(1) with a high byte", x.feed(1, -1L), 1);
        due("town()", x.town(), -11);
        due("fault()", x.fault(), 0);
        refused(x, y -> {
            due("feed(0)", y.feed(0, 0L), OUTSIDE);
            due("feed(9)", y.feed(9, 0L), OUTSIDE);
            due("feed(-1)", y.feed(-1, 0L), OUTSIDE);
            due("feed(LOW)", y.feed(LOW, 0L), OUTSIDE);
            due("feed(HIGH)", y.feed(HIGH, 0L), OUTSIDE);
        });
        for (int k = 1; k <= 49; k++) due("feed(8)", x.feed(8, 0x2020202020202020L), 8 * k);
        due("feed(4)", x.feed(4, 0x20202020L), 396);
        refused(x, y -> due("feed(5) at 396", y.feed(5, 0L), FULL));
        due("feed(4)", x.feed(4, 0x20202020L), 400);
        refused(x, y -> {
            due("feed(1) at 400", y.feed(1, 32L), FULL);
            due("feed(9) at 400", y.feed(9, 32L), OUTSIDE);
        });
        due("town() of 400 blanks", x.town(), 0);
        due("told(3)", x.told(3), 0);
    }

    private static void promise3() {
        about = "promise 3";
        goodTexts();
        wordsThatCannotStand();
        badNumbers();
        tooManyAndAgain();
        newTown();
    }

    private static void goodTexts() {
        read("", 0, NONE);
        read("   ", 0, NONE);
        read("hats 2;", 0, NONE);
        read("hats 99;", 0, NONE);
        read("hats 099;", 0, NONE);
        read("person;hats 9;", 1, NONE);
        read(" hats 9 ; fact 1 ; fact 99 follows 0 ; person knows 1 , 0 ; ", 1, NONE);
        read("hats2;fact1;fact1follows0;person knows0,1;person;", 2, NONE);
        read("fact 1;fact 1;fact 1;fact 1;fact 1;fact 1 follows 4,3,2,1,0;person;person;person;person;person;", 5, NONE);
        read("fact 001;person knows 000;", 1, NONE);
    }

    private static void wordsThatCannotStand() {
        read("facts 1;", -11, 0);
        read("factz 1;", -11, 0);
        read("facta 1;", -11, 0);
        read("xact 1;", -11, 0);
        read("hatr 5;", -11, 0);
        read("fact`1;", -11, 4);
        read("fact{1;", -11, 4);
        read("fact 1/;", -11, 6);
        read("fact 1:;", -11, 6);
        read("hat", -11, 0);
        read("ha ts 5;", -11, 0);
        read("HATS 5;", -11, 0);
        read(";", -11, 0);
        read("7;", -11, 0);
        read("5000;", -11, 0);
        read("hats;", -11, 4);
        read("hats\t5;", -11, 4);
        read("hats 5", -11, 6);
        read("hats 5   ", -11, 9);
        read("hats 5 6;", -11, 7);
        read("hats 5 5000;", -11, 7);
        read("hats 5,6;", -11, 6);
        read("hats hats 5;", -11, 5);
        read("hats x;", -11, 5);
        read("hats 5;;", -11, 7);
        read("fact 1,2;", -11, 6);
        read("fact 1 knows 0;", -11, 7);
        read("fact 1;fact 1 follow 0;", -11, 14);
        read("fact 1;fact 1 follows;", -11, 21);
        read("fact 1;fact 1 follows 0 0;", -11, 24);
        read("fact 1;fact 1 follows 0,;", -11, 24);
        read("fact 1;person follows 0;", -11, 14);
        read("fact 1;personknows 0;", -11, 7);
        read("fact 1;person knows ", -11, 20);
        read("fact 1;person knows 0", -11, 21);
        read("person person;", -11, 7);
        read("person 0;", -11, 7);
        read("person;fact 1;", -11, 7);
        read("person;hats 5;fact 1;", -11, 14);
        read("fact 1;fact 1;fact 1;fact 1;fact 1;fact 1;person;fact 1;", -11, 49);
        read("person\u00e9;", -11, 6);
    }

    private static void badNumbers() {
        read("hats 1;", -12, 5);
        read("hats 0;", -12, 5);
        read("hats 100;", -12, 5);
        read("hats 0010;", -12, 5);
        read("hats 99999999999999999999;", -12, 5);
        read("hats 1 0;", -12, 5);
        read("hats 1", -12, 5);
        read("fact 0;", -12, 5);
        read("fact 100;", -12, 5);
        read("fact 0001;", -12, 5);
        read("fact 1 follows 0;", -12, 15);
        read("fact 1;fact 1 follows 1;", -12, 22);
        read("fact 1;fact 1 follows 0,1;", -12, 24);
        read("fact 1;fact 1 follows 0000;", -12, 22);
        read("person knows 0;", -12, 13);
        read("fact 1;person knows 0, 1;", -12, 23);
        read("fact 1;person knows 999;", -12, 20);
    }

    private static void tooManyAndAgain() {
        read("hats 5;hats 5;", -13, 7);
        read("hats 5;person;hats", -13, 14);
        read("fact 1;fact 1;fact 1;fact 1;fact 1;fact 1;fact 1;", -13, 42);
        read("fact 1;fact 1;fact 1;fact 1;fact 1;fact 1; fact x;", -13, 43);
        read("person;person;person;person;person;person;", -13, 35);
        read("fact 1;fact 1 follows 0,0;", -14, 24);
        read("fact 1;fact 1;fact 1 follows 1,0,01;", -14, 33);
        read("fact 1;person knows 0,0", -14, 22);
        read("fact 1;fact 1;fact 1;fact 1;fact 1;fact 1;person knows 0,1,2,3,4,5,0;", -14, 67);
    }

    private static void newTown() {
        UntoldFacts x = told(SEVEN);
        x.say(0, 1, 0, 0);
        x.say(0, 1, 0, 0);
        x.write(0, 1, 0);
        x.seed(77);
        x.keep(0);
        List<Integer> before = sight(x);
        feedAll(x, "hats 5;person;person;fact 1;");
        due("town() with a fault", x.town(), -11);
        before.set(7, 21);
        due("all is as it was", sight(x).equals(before) ? 1 : 0, 1);
        due("goBack(0) as it was", x.goBack(0), 1);
        feedAll(x, "fact 3;person knows 0;person;");
        due("town()", x.town(), 2);
        due("told(2) untold", x.told(2), 10);
        due("told(4)", x.told(4), 0);
        due("told(5)", x.told(5), 0);
        due("person(0, 2)", x.person(0, 2), 0);
        due("goBack(0)", x.goBack(0), NOT);
        due("seed(0)", x.seed(0), 77);
        canKnowIs(x, 1, 0, 1);
        canKnowIs(x, 0, 1, 0);
        // Nothing of earlier towns is left, however many there were.
        for (int k = 0; k < 3; k++) {
            feedAll(x, "hats " + (2 + k) + ";fact 4;fact 1;person;person knows 1;");
            due("town()", x.town(), 2);
            due("canKnow(1, 0, NONE)", x.canKnow(1, 0, NONE), k == 1 ? 1 : 2);
        }
        canKnowIs(x, 1, 0, 0, 1);
        canKnowIs(x, 0, 1, 2, 3);
        due("town() of nothing", x.town(), 0);
        due("told(0)", x.told(0), 0);
    }

    private static void promise4() {
        about = "promise 4";
        UntoldFacts x = new UntoldFacts();
        due("fault()", x.fault(), NONE);
        feedAll(x, "hats 1;");
        due("fault() ahead of town()", x.fault(), NONE);
        x.town();
        due("fault()", x.fault(), 5);
        feedAll(x, "person;");
        due("fault() until the next town()", x.fault(), 5);
        x.town();
        due("fault()", x.fault(), NONE);
    }

    private static void promise5() {
        about = "promise 5";
        UntoldFacts x = told(SEVEN);
        x.say(0, 1, 0, 0);
        x.write(0, 1, 0);
        x.write(0, 1, 0);
        x.feed(3, 0L);
        int[] want = {4, 4, 7, 3, 1, 2, 14};
        for (int w = 0; w < 7; w++) due("told(" + w + ")", x.told(w), want[w]);
        for (int w : new int[] {-1, 7, LOW, HIGH}) due("told(" + w + ")", x.told(w), OUTSIDE);
        due("told(6)", told("fact 1;fact 1;fact 1;fact 1;fact 1;fact 1;").told(6), 64);
        due("told(6)", told("fact 1;fact 1 follows 0;fact 1 follows 1;").told(6), 4);
    }

    private static void promise6() {
        about = "promise 6";
        UntoldFacts x = told(SEVEN);
        due("fact(2, 0)", x.fact(2, 0), 4);
        due("fact(3, 0)", x.fact(3, 0), 9);
        due("fact(2, 1)", x.fact(2, 1), 0);
        due("fact(3, 1)", x.fact(3, 1), 3);
        due("fact(0, 2)", x.fact(0, 2), 9);
        due("fact(1, 2)", x.fact(1, 2), 10);
        due("fact(3, 2)", x.fact(3, 2), 8);
        x.say(0, 1, 0, 4);
        due("fact(0, 2)", x.fact(0, 2), 15);
        due("fact(3, 2), which follows", x.fact(3, 2), 10);
        for (int f : new int[] {-1, 4, LOW, HIGH}) due("fact(" + f + ", 9)", x.fact(f, 9), UNKNOWN);
        for (int w : new int[] {-1, 3, LOW, HIGH}) due("fact(0, " + w + ")", x.fact(0, w), OUTSIDE);
    }

    private static void promise7() {
        about = "promise 7";
        UntoldFacts x = told(SEVEN);
        int[][] want = {{5, 5, 0, 0}, {2, 2, 0, 0}, {0, 0, 0, 2}, {11, 5, 0, 0}};
        for (int p = 0; p < 4; p++) for (int w = 0; w < 4; w++) due("person(" + p + ", " + w + ")", x.person(p, w), want[p][w]);
        x.say(3, 2, 1, 0);
        x.say(3, 2, 1, 0);
        due("person(2, 0)", x.person(2, 0), 2);
        due("person(2, 1), the HAT of the MORNING", x.person(2, 1), 0);
        due("person(2, 3), by the HAT", x.person(2, 3), 2);
        due("person(3, 2)", x.person(3, 2), 1);
        for (int p : new int[] {-1, 4, LOW, HIGH}) due("person(" + p + ", 9)", x.person(p, 9), UNKNOWN);
        for (int w : new int[] {-1, 4, LOW, HIGH}) due("person(0, " + w + ")", x.person(0, w), OUTSIDE);
    }

    private static void promise8() {
        about = "promise 8";
        UntoldFacts x = told(SEVEN);
        int[] want = {0, 1, 2, 11, 4, 5, 6, 15, 8, 9, 10, 11, 12, 13, 14, 15};
        for (int s = 0; s < 16; s++) due("closed(" + s + ")", x.closed(s), want[s]);
        for (int s : new int[] {-1, 16, 32, LOW, HIGH}) due("closed(" + s + ")", x.closed(s), UNKNOWN);
        UntoldFacts y = told("fact 1;fact 1 follows 0;fact 1 follows 1;fact 1;fact 1 follows 2,3;fact 1;");
        due("closed(1), a chain", y.closed(1), 7);
        due("closed(9)", y.closed(9), 31);
        due("closed(12)", y.closed(12), 28);
        due("closed(63)", y.closed(63), 63);
        due("closed(64)", y.closed(64), UNKNOWN);
    }

    // ---- what others can know

    private static void promise9() {
        about = "promise 9";
        UntoldFacts x = told(SEVEN);
        canKnowIs(x, 0, 1, 2, 8, 15);
        canKnowIs(x, 1, 0, 5, 11);
        canKnowIs(x, 3, 2, 0, 13);
        for (int i : new int[] {-2, LOW, 64, HIGH}) due("canKnow(0, 1, " + i + ")", x.canKnow(0, 1, i), NONE);
        int[][] no = {{0, 0}, {-1, 0}, {0, -1}, {4, 0}, {0, 4}, {LOW, HIGH}, {HIGH, 0}};
        for (int[] n : no) due("canKnow(" + n[0] + ", " + n[1] + ", -1)", x.canKnow(n[0], n[1], -1), UNKNOWN);
        UntoldFacts y = told("hats 2;fact 2;fact 2;fact 2;fact 2;fact 2;fact 2;person;person;");
        due("canKnow of all SETS", y.canKnow(0, 1, NONE), 64);
        due("canKnow, the last SET", y.canKnow(0, 1, 63), 63);
        due("canKnow behind it", y.canKnow(0, 1, 64), NONE);
    }

    private static void promise10() {
        about = "promise 10";
        UntoldFacts x = told(SEVEN);
        due("sure(1, 0, 0)", x.sure(1, 0, 0), 1);
        due("sure(1, 0, 1)", x.sure(1, 0, 1), 0);
        due("sure(0, 2, 0)", x.sure(0, 2, 0), 0);
        due("sure(0, 2, 1)", x.sure(0, 2, 1), 2);
        due("sure(0, 0, 9)", x.sure(0, 0, 9), UNKNOWN);
        due("sure(4, 0, 0)", x.sure(4, 0, 0), UNKNOWN);
        due("sure(0, -1, 0)", x.sure(0, -1, 0), UNKNOWN);
        for (int w : new int[] {-1, 2, LOW, HIGH}) due("sure(0, 1, " + w + ")", x.sure(0, 1, w), OUTSIDE);
        UntoldFacts y = told(PLAIN);
        y.silent(0, 2);
        canKnowIs(y, 2, 0);
        due("sure without SETS", y.sure(2, 0, 0), 0);
        due("sure without SETS", y.sure(2, 0, 1), 0);
    }

    private static void promise11() {
        about = "promise 11";
        UntoldFacts x = told(SEVEN);
        due("safe(3, 2)", x.safe(3, 2), 2);
        due("safe(1, 2)", x.safe(1, 2), 2);
        due("safe(0, 2), who does not know it", x.safe(0, 2), 0);
        due("safe(0, 1)", x.safe(0, 1), 0);
        int[][] no = {{1, 1}, {-1, 0}, {0, -1}, {4, 0}, {0, 4}, {LOW, HIGH}};
        for (int[] n : no) due("safe(" + n[0] + ", " + n[1] + ")", x.safe(n[0], n[1]), UNKNOWN);
        UntoldFacts y = told(PLAIN);
        due("safe(0, 1)", y.safe(0, 1), 7);
        due("safe(1, 0)", y.safe(1, 0), 56);
        due("safe(2, 0)", y.safe(2, 0), 0);
    }

    private static void promise12() {
        about = "promise 12";
        UntoldFacts x = told(SEVEN);
        due("odds(0, 1, 0)", x.odds(0, 1, 0), 666666);
        due("odds(0, 1, 1)", x.odds(0, 1, 1), 333333);
        due("odds(0, 2, 1)", x.odds(0, 2, 1), 1000000);
        due("odds(1, 0, 0)", x.odds(1, 0, 0), 0);
        due("odds(1, 0, 2)", x.odds(1, 0, 2), 500000);
        int[][] no = {{1, 1, 0}, {-1, 0, 0}, {0, 4, 0}, {0, 1, 4}, {0, 1, -1}, {0, 1, HIGH}, {LOW, 1, 0}};
        for (int[] n : no) due("odds(" + n[0] + ", " + n[1] + ", " + n[2] + ")", x.odds(n[0], n[1], n[2]), UNKNOWN);
        UntoldFacts y = told(PLAIN);
        y.silent(0, 2);
        due("odds without SETS", y.odds(2, 0, 5), 0);
        UntoldFacts z = told("hats 2;fact 2;fact 2;fact 2;fact 2;fact 2;fact 2;person;person;");
        due("odds of 64 SETS", z.odds(0, 1, 5), 500000);
    }

    private static void promise13() {
        about = "promise 13";
        UntoldFacts x = told(SEVEN);
        due("best(0, 1), the least of like ones", x.best(0, 1), 0);
        due("best(3, 2)", x.best(3, 2), 1);
        due("best(3, 0)", x.best(3, 0), 1);
        due("best(2, 0), who knows nothing", x.best(2, 0), NONE);
        int[][] no = {{1, 1}, {-1, 0}, {0, -1}, {4, 0}, {0, 4}, {LOW, HIGH}};
        for (int[] n : no) due("best(" + n[0] + ", " + n[1] + ")", x.best(n[0], n[1]), UNKNOWN);
        UntoldFacts y = told(PLAIN);
        y.say(0, 2, 1, 0);
        y.silent(1, 2);
        canKnowIs(y, 2, 1);
        due("best without SETS", y.best(2, 1), 1);
    }

    // ---- talks

    private static void promise14() {
        about = "promise 14";
        UntoldFacts x = told(SEVEN);
        due("say(0, 1, 0, 4)", x.say(0, 1, 0, 4), 0);
        int[] known = {5, 11, 1, 11};
        for (int p = 0; p < 4; p++) due("person(" + p + ", 0)", x.person(p, 0), known[p]);
        canKnowIs(x, 0, 1, 9, 11);
        canKnowIs(x, 2, 1, 9, 11);
        canKnowIs(x, 3, 1, 2, 8, 15);
        canKnowIs(x, 1, 0, 5, 11);
        canKnowIs(x, 0, 2, 1, 13);
        canKnowIs(x, 1, 2, 1, 13);
        canKnowIs(x, 3, 2, 0, 13);
        canKnowIs(x, 2, 3, 5, 11);
        due("person(0, 2)", x.person(0, 2), 0);
        due("say(1, 2, 3, 0)", x.say(1, 2, 3, 0), 0);
        canKnowIs(x, 2, 1, 9, 11);
        canKnowIs(x, 1, 2, 9);
        due("say(2, 1, 3, 9), an INSULT", x.say(2, 1, 3, 9), 1);
        canKnowIs(x, 2, 1, 9, 11);
        canKnowIs(x, 3, 1, 8, 15);
        canKnowIs(x, 3, 2, 13);
        canKnowIs(x, 2, 3, 11, 13);
        due("person(0, 0)", x.person(0, 0), 13);
        due("person(2, 2)", x.person(2, 2), 1);
        logIs(x, 2, 2, 1, 3, 9, 1);
        refused(x, PromiseTests::badSayings);
    }

    private static void badSayings(UntoldFacts x) {
        due("say(0, 1, 1, 0)", x.say(0, 1, 1, 0), NOT);
        int[][] no = {{0, 0, 0, 0}, {-1, 0, 0, 0}, {4, 0, 0, 0}, {0, 4, 0, 0}, {0, 1, 4, 0}, {0, 1, -1, 0}, {0, 1, 0, 1},
            {0, 1, 0, 2}, {0, 1, 0, 16}, {0, 1, 0, -1}, {0, 1, 0, LOW}, {0, 1, 1, 1}, {HIGH, LOW, 0, 0}, {0, 1, 32, 0}};
        for (int[] n : no) due("say " + n[0] + " " + n[1] + " " + n[2] + " " + n[3], x.say(n[0], n[1], n[2], n[3]), UNKNOWN);
    }

    private static void promise15() {
        about = "promise 15";
        UntoldFacts x = told(SEVEN);
        due("silent(0, 2)", x.silent(0, 2), 1);
        canKnowIs(x, 2, 0, 5);
        canKnowIs(x, 1, 0, 5, 11);
        canKnowIs(x, 0, 2, 0, 13);
        due("silent(0, 2) again", x.silent(0, 2), 0);
        due("silent(0, 1), who lacks nothing plainly", x.silent(0, 1), 0);
        x.say(1, 2, 1, 0);
        due("silent(3, 2), who knows it now", x.silent(3, 2), 0);
        canKnowIs(x, 2, 3, 5, 11);
        due("told(4)", x.told(4), 1);
        refused(x, y -> {
            int[][] no = {{1, 1}, {-1, 0}, {0, -1}, {4, 0}, {0, 4}, {LOW, HIGH}};
            for (int[] n : no) due("silent(" + n[0] + ", " + n[1] + ")", y.silent(n[0], n[1]), UNKNOWN);
        });
    }

    private static void promise16() {
        about = "promise 16";
        UntoldFacts x = told(SEVEN);
        x.say(3, 2, 1, 1);
        due("person(0, 0)", x.person(0, 0), 15);
        canKnowIs(x, 3, 0, 11, 15);
        due("morning()", x.morning(), 5);
        int[] hats = {2, 2, 2, 5};
        for (int p = 0; p < 4; p++) due("person(" + p + ", 1)", x.person(p, 1), hats[p]);
        due("told(4)", x.told(4), 0);
        // 3 was SURE that 0 knows 0, 1, 3, and that 2 knows 1; 1 saw nothing.
        canKnowIs(x, 3, 0, 15);
        canKnowIs(x, 3, 2, 2, 15);
        canKnowIs(x, 1, 2, 2, 8, 15);
        canKnowIs(x, 1, 0, 15);
        canKnowIs(x, 0, 3, 11);
        due("morning() again", x.morning(), 0);
        UntoldFacts y = told(PLAIN);
        y.silent(0, 2);
        due("morning()", y.morning(), 0);
        canKnowIs(y, 2, 0, 7);
    }

    private static void promise17() {
        about = "promise 17";
        UntoldFacts x = told(SEVEN);
        due("party(13)", x.party(13), 0);
        due("party(2)", x.party(2), 1);
        logIs(x, 0, 1, 2, 1, 9, 0);
        UntoldFacts y = told(PLAIN);
        due("party(0)", y.party(0), 0);
        due("party(10)", y.party(10), 2);
        logIs(y, 0, 0, 1, 1, 4, 0);
        logIs(y, 1, 1, 0, 3, 4, 0);
        due("party(63)", y.party(63), 4);
        logIs(y, 2, 0, 1, 0, 4, 0);
        logIs(y, 3, 0, 1, 2, 4, 0);
        logIs(y, 4, 1, 0, 4, 4, 0);
        for (int p = 0; p < 3; p++) due("person(" + p + ", 0)", y.person(p, 0), 63);
        due("party(63) again", y.party(63), 0);
        due("party(63) of six", told(PLAIN).party(63), 6);
        refused(y, z -> {
            for (int s : new int[] {-1, 64, LOW, HIGH}) due("party(" + s + ")", z.party(s), UNKNOWN);
        });
    }

    // ---- plans

    private static void promise18() {
        about = "promise 18";
        UntoldFacts x = told(PLAIN);
        refused(x, y -> {
            planIs(y, 0, 1, 0, 0, 0, 1, 0, 2, 1, 3, 1, 4, 1, 5);
            planIs(y, 1, 0, 1, 3, 1, 4, 1, 5, 0, 0, 0, 1, 0, 2);
            planIs(y, 2, 0, 0, 0, 0, 1, 0, 2);
            for (int i : new int[] {-2, LOW, HIGH}) due("plan(0, 1, " + i + ")", y.plan(0, 1, i), NONE);
            int[][] no = {{1, 1}, {-1, 0}, {0, -1}, {3, 0}, {0, 3}, {LOW, HIGH}};
            for (int[] n : no) due("plan(" + n[0] + ", " + n[1] + ", 0)", y.plan(n[0], n[1], 0), UNKNOWN);
        });
        UntoldFacts none = told(SEVEN);
        due("plan(0, 1, NONE), there is none", none.plan(0, 1, NONE), NONE);
        due("plan(0, 1, 0), there is none", none.plan(0, 1, 0), NONE);
        UntoldFacts same = told("fact 1;person knows 0;person knows 0;");
        planIs(same, 0, 1);
        // Both are told 1 and 2 by telling 0: the plan of one saying comes ahead of the longer ones.
        UntoldFacts chain = told("hats 99;fact 1;fact 2 follows 0;fact 4 follows 1;person knows 2;person knows 0;");
        planIs(chain, 0, 1, 1, 0);
        planIs(told("hats 99;fact 1;fact 2 follows 0;fact 4 follows 1;person;person knows 0;"), 0, 1, 1, 0);
        UntoldFacts seven = told("hats 99;fact 1;fact 2;fact 4;fact 8;fact 16;fact 32;person knows 0,1,2,3,4,5;person;");
        due("plan of six", seven.plan(0, 1, NONE), 6);
        due("plan of six, told the other way round", seven.plan(1, 0, 10), 0);
    }

    private static void promise19() {
        about = "promise 19";
        UntoldFacts x = told(SEVEN);
        due("hats(1)", x.hats(1), 5);
        due("hats(2)", x.hats(2), 12);
        due("hats(6)", x.hats(6), 17);
        UntoldFacts y = told(PLAIN);
        due("hats(1)", y.hats(1), 3);
        due("hats(6)", y.hats(6), 64);
        UntoldFacts like = told("fact 5;fact 5;");
        due("hats(1)", like.hats(1), 2);
        due("hats(2)", like.hats(2), NONE);
        due("hats(6)", told("fact 99;").hats(6), 2);
        due("hats(1)", told("fact 60;").hats(1), 7);
        due("hats(5), the greatest", told("fact 77;fact 45;fact 55;fact 71;fact 80;fact 11;").hats(5), 99);
        due("hats(6), great sums", told("fact 92;fact 86 follows 0;fact 91 follows 1;fact 82 follows 2;"
            + "fact 94 follows 3;fact 80 follows 1;").hats(6), 26);
        refused(x, z -> {
            for (int d : new int[] {0, 7, -1, LOW, HIGH}) due("hats(" + d + ")", z.hats(d), OUTSIDE);
        });
    }

    private static void promise20() {
        about = "promise 20";
        UntoldFacts x = told(SEVEN);
        due("common(2, 0, 3)", x.common(2, 0, 3), 1);
        due("common(1, 0, 3)", x.common(1, 0, 3), 1);
        due("common(2, 0, 1)", x.common(2, 0, 1), 0);
        int[][] no = {{0, 0, 1}, {0, 1, 0}, {1, 0, 0}, {2, 2, 2}, {4, 0, 1}, {0, 4, 1}, {0, 1, 4}, {-1, 0, 1}, {0, LOW, HIGH}};
        for (int[] n : no) due("common(" + n[0] + ", " + n[1] + ", " + n[2] + ")", x.common(n[0], n[1], n[2]), UNKNOWN);
        UntoldFacts y = told(PLAIN);
        y.say(0, 1, 0, 4);
        y.say(0, 1, 1, 0);
        due("common(2, 0, 1), who listened to 0 alone", y.common(2, 0, 1), 1);
    }

    private static void promise21() {
        about = "promise 21";
        UntoldFacts x = told(SEVEN);
        knewIs(x, 0, 5, 11);
        knewIs(x, 1, 2, 8, 15);
        x.say(0, 1, 0, 4);
        knewIs(x, 1, 2, 8);
        knewIs(x, 0, 5, 11);
        knewIs(x, 2, 0, 13);
        x.say(1, 2, 3, 0);
        knewIs(x, 1, 2, 8);
        knewIs(x, 2, 0);
        x.say(1, 0, 1, 0);
        knewIs(x, 1, 2);
        knewIs(x, 0, 5);
        x.say(3, 0, 1, 0);
        knewIs(x, 3, 11);
        due("knew(0, NONE), an INSULT", x.knew(0, NONE), 1);
        for (int i : new int[] {-2, LOW, HIGH}) due("knew(0, " + i + ")", x.knew(0, i), NONE);
        for (int q : new int[] {-1, 4, LOW, HIGH}) due("knew(" + q + ", 0)", x.knew(q, 0), UNKNOWN);
        x.morning();
        due("knew(2, NONE) by the new HAT", x.knew(2, NONE), x.canKnow(0, 2, NONE));
        UntoldFacts y = told(TWO);
        y.say(0, 2, 0, 0);
        knewIs(y, 2, 1);
        knewIs(y, 0, 3);
    }

    private static void promise22() {
        about = "promise 22";
        UntoldFacts x = told(SEVEN);
        due("bore(), of like ones the least", x.bore(), 0);
        // SURE at first: 0 of 2 (FACT 1 of 2, FACT 0 of 3), 1 of 3, 2 of 2, 3 of 2. Then 2 of 5, 3 of 2, 0 of 5.
        x.silent(0, 2);
        due("bore()", x.bore(), 0);
        x.say(0, 2, 0, 0);
        x.say(0, 2, 2, 0);
        canKnowIs(x, 0, 2, 5);
        due("bore()", x.bore(), 3);
        UntoldFacts y = told(PLAIN);
        due("bore(), all alike", y.bore(), 0);
        y.silent(0, 2);
        due("bore(), SURE of nothing of 0", y.bore(), 2);
        y.silent(0, 1);
        canKnowIs(y, 1, 0);
        due("bore(), 1 and 2 alike", y.bore(), 1);
        y.silent(1, 2);
        due("bore(), SURE of nothing", y.bore(), 2);
        due("bore() of one", told("fact 1;person;").bore(), 0);
        due("bore() of none", told("fact 1;").bore(), NONE);
    }

    // ---- logs, books

    private static void promise23() {
        about = "promise 23";
        UntoldFacts x = told(SEVEN);
        x.say(3, 2, 1, 0);
        x.silent(0, 1);
        x.say(3, 2, 1, 1);
        logIs(x, 0, 3, 2, 1, 0, 0);
        logIs(x, 1, 3, 2, 1, 1, 1);
        for (int i : new int[] {2, -1, LOW, HIGH}) due("log(" + i + ", 0)", x.log(i, 0), NONE);
        for (int w : new int[] {-1, 5, LOW, HIGH}) {
            due("log(0, " + w + ")", x.log(0, w), OUTSIDE);
            due("log(9, " + w + ")", x.log(9, w), OUTSIDE);
        }
        for (int k = 2; k < 60; k++) x.say(3, 0, 0, 0);
        due("told(4)", x.told(4), 60);
        x.say(3, 1, 0, 0);
        due("told(4), the first 60", x.told(4), 60);
        logIs(x, 59, 3, 0, 0, 0, 1);
        due("log(60, 0)", x.log(60, 0), NONE);
        due("person(3, 2), counted all the same", x.person(3, 2), 59);
        x.morning();
        due("log(0, 0)", x.log(0, 0), NONE);
    }

    private static void promise24() {
        about = "promise 24";
        UntoldFacts x = told(SEVEN);
        refused(x, y -> {
            int[][] no = {{1, 1, 0}, {-1, 0, 0}, {0, -1, 0}, {4, 0, 0}, {0, 4, 0}, {0, 1, 4}, {0, 1, -1}, {LOW, HIGH, 0}};
            for (int[] n : no) due("write(" + n[0] + ", " + n[1] + ", " + n[2] + ")", y.write(n[0], n[1], n[2]), UNKNOWN);
        });
        for (int k = 1; k <= 30; k++) due("write(2, 0, 3)", x.write(2, 0, 3), k);
        refused(x, y -> {
            due("write(0, 1, 2)", y.write(0, 1, 2), FULL);
            due("write(0, 0, 2)", y.write(0, 0, 2), UNKNOWN);
        });
    }

    private static void promise25() {
        about = "promise 25";
        UntoldFacts x = told(SEVEN);
        due("tear()", x.tear(), 0);
        x.write(2, 0, 3);
        x.write(2, 0, 3);
        due("judge()", x.judge(), 0);
        due("tear()", x.tear(), 2);
        due("told(5)", x.told(5), 0);
        due("judge()", x.judge(), NONE);
        due("tear()", x.tear(), 0);
        due("write()", x.write(0, 1, 0), 1);
        due("judge() of the new book", x.judge(), NONE);
    }

    private static void promise26() {
        about = "promise 26";
        UntoldFacts x = told(SEVEN);
        x.write(0, 1, 0);
        x.write(1, 2, 3);
        x.write(2, 0, 3);
        due("judge(), what follows is known, too", x.judge(), NONE);
        refused(x, y -> due("judge() is tried only", y.judge(), NONE));
        x.write(2, 0, 3);
        x.write(2, 3, 2);
        due("judge(), the hearer knows it", x.judge(), 3);
        x.tear();
        x.write(3, 2, 0);
        x.write(2, 1, 1);
        due("judge(), the speaker does not know it", x.judge(), 1);
        x.say(1, 2, 1, 0);
        due("judge() from what is known now", x.judge(), 1);
        x.tear();
        x.write(2, 0, 1);
        due("judge() from what is known now", x.judge(), NONE);
    }

    // ---- draws, images

    private static void promise27() {
        about = "promise 27";
        UntoldFacts x = told(PLAIN);
        due("drift(4, 1000000)", x.drift(4, 1000000), 1);
        due("told(4)", x.told(4), 4);
        logIs(x, 0, 0, 1, 0, 0, 0);
        logIs(x, 1, 1, 2, 0, 0, 0);
        logIs(x, 2, 0, 2, 0, 0, 1);
        logIs(x, 3, 1, 2, 3, 0, 0);
        due("seed(0) after 8 DRAWS", x.seed(0), 1293799192);
        refused(x, y -> {
            int[][] no = {{0, 0}, {100, 0}, {-1, 0}, {1, -1}, {1, 1000001}, {LOW, HIGH}};
            for (int[] n : no) due("drift(" + n[0] + ", " + n[1] + ")", y.drift(n[0], n[1]), OUTSIDE);
        });
        UntoldFacts one = told("fact 1;person knows 0;");
        due("drift(1, 0) of one", one.drift(1, 0), NOT);
        due("drift(100, 0) of one", one.drift(100, 0), OUTSIDE);
        due("drift(1, 1000001) of one", one.drift(1, 1000001), OUTSIDE);
        // 0 is SILENT to 1: 1 waits for FACT 0, which it lacks plainly, and strikes all that 0 CAN KNOW.
        UntoldFacts quiet = told("hats 99;fact 1;fact 2;person knows 0;person;");
        quiet.say(0, 1, 0, 0);
        due("drift(1, 1)", quiet.drift(1, 1), 0);
        due("told(4), SILENT", quiet.told(4), 1);
        due("drift(1, 0) of ODDS 0", quiet.drift(1, 0), 1);
        UntoldFacts dumb = told("hats 99;fact 1;person;person;");
        due("drift(99, 0) of NONE", dumb.drift(99, 0), 0);
        due("told(4)", dumb.told(4), 0);
        UntoldFacts hushed = told(SEVEN);
        hushed.seed(2147483647);
        // DRAWS: 1 of four, then 2 of three: the others are 0, 2, 3.
        due("drift(1, 1000000)", hushed.drift(1, 1000000), 0);
        due("seed(12345)", hushed.seed(12345), 288979989);
        // DRAWS: 0 of four, then 1 of three: the others are 1, 2, 3.
        hushed.keep(0);
        due("drift(1, 500001)", hushed.drift(1, 500001), 0);
        due("told(4)", hushed.told(4), 0);
        canKnowIs(hushed, 2, 0, 5);
        hushed.goBack(0);
        due("drift(1, 500000)", hushed.drift(1, 500000), 0);
        logIs(hushed, 0, 0, 2, 0, 0, 0);
        canKnowIs(hushed, 2, 0, 5, 11);
    }

    private static void promise28() {
        about = "promise 28";
        UntoldFacts x = told(SEVEN);
        due("seed(5)", x.seed(5), 0);
        due("seed(HIGH)", x.seed(HIGH), 5);
        refused(x, y -> {
            due("seed(-1)", y.seed(-1), OUTSIDE);
            due("seed(LOW)", y.seed(LOW), OUTSIDE);
        });
        x.drift(1, 0);
        due("seed(0) after two DRAWS", x.seed(0), 288979989);
    }

    private static void promise29() {
        about = "promise 29";
        UntoldFacts x = told(SEVEN);
        for (int i : new int[] {-1, 2, LOW, HIGH}) due("keep(" + i + ")", x.keep(i), UNKNOWN);
        due("goBack(0), not kept", x.goBack(0), NOT);
        List<Integer> first = sight(x);
        due("keep(0)", x.keep(0), 1);
        due("what is so stays", sight(x).equals(first) ? 1 : 0, 1);
        x.say(0, 1, 0, 0);
        List<Integer> second = sight(x);
        due("keep(1)", x.keep(1), 1);
        x.goBack(0);
        due("IMAGE 0", sight(x).equals(first) ? 1 : 0, 1);
        x.goBack(1);
        due("IMAGE 1", sight(x).equals(second) ? 1 : 0, 1);
        due("keep(0) anew", x.keep(0), 1);
        x.morning();
        x.goBack(0);
        due("IMAGE 0 anew", sight(x).equals(second) ? 1 : 0, 1);
    }

    private static void promise30() {
        about = "promise 30";
        UntoldFacts x = told(SEVEN);
        for (int i : new int[] {-1, 2, LOW, HIGH}) due("goBack(" + i + ")", x.goBack(i), UNKNOWN);
        refused(x, y -> due("goBack(1)", y.goBack(1), NOT));
        x.say(3, 2, 1, 0);
        x.say(3, 2, 1, 0);
        x.seed(9);
        List<Integer> kept = sight(x);
        x.keep(1);
        due("goBack(0)", x.goBack(0), NOT);
        x.drift(20, 0);
        x.morning();
        x.say(0, 1, 0, 0);
        x.say(0, 1, 2, 4);
        x.silent(0, 1);
        due("goBack(1)", x.goBack(1), 1);
        due("what is so", sight(x).equals(kept) ? 1 : 0, 1);
        logIs(x, 1, 3, 2, 1, 0, 1);
        x.drift(20, 0);
        x.write(0, 1, 0);
        x.feed(3, 0L);
        x.goBack(1);
        due("THE BOOK stays", x.told(5), 1);
        due("THE TEXT stays", x.told(3), 3);
        x.tear();
        x.town();
        due("fault() stays", x.fault(), 0);
        x.goBack(1);
        due("fault() stays", x.fault(), 0);
        due("goBack(1) once more", x.person(3, 2), 1);
        fivePersons();
    }

    private static void fivePersons() {
        UntoldFacts x = told("hats 99;fact 1;fact 2;person;person;person;person;person knows 0;");
        x.keep(0);
        List<Integer> first = sight(x);
        due("say(4, 3, 0, 7)", x.say(4, 3, 0, 7), 0);
        due("say(3, 4, 0, 0)", x.say(3, 4, 0, 0), 1);
        due("say(4, 3, 0, 0)", x.say(4, 3, 0, 0), 1);
        due("morning()", x.morning(), 15);
        List<Integer> second = sight(x);
        x.keep(1);
        x.goBack(0);
        due("IMAGE 0 of five", sight(x).equals(first) ? 1 : 0, 1);
        x.goBack(1);
        due("IMAGE 1 of five", sight(x).equals(second) ? 1 : 0, 1);
        x.goBack(0);
        x.write(4, 0, 0);
        due("judge() of five", x.judge(), NONE);
    }
}
