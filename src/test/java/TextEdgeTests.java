import java.util.ArrayList;
import java.util.List;

/** THE TEXT: each sentence of section 1 and of promises 1 to 4 that names a boundary case. */
public final class TextEdgeTests extends Check {
    private static final String[] TOKENS = {"hats", "fact", "person", "follows", "knows", "x", "0", "1", "2", "5", "5000", ",", ";", "?"};

    public static void main(String[] args) {
        sentence("(400 bytes at most)", TextEdgeTests::longestTexts);
        sentence("'hats' M ';' (2 .. 99; 10 untold; once)", TextEdgeTests::hatsClauses);
        sentence("6 FACTS at most", TextEdgeTests::sixFacts);
        sentence("WEIGHT 1 .. 99", TextEdgeTests::weights);
        sentence("it FOLLOWS from FACTS told ahead, unlike", TextEdgeTests::followsClauses);
        sentence("5 PERSONS at most, behind all FACTS", TextEdgeTests::fivePersons);
        sentence("F unlike", TextEdgeTests::knowsClauses);
        sentence("NUMBERS have one to three figures", TextEdgeTests::figures);
        sentence("words are letters a .. z side by side", TextEdgeTests::letters);
        sentence("blanks (32) may stand anywhere but within words and NUMBERS", TextEdgeTests::blanks);
        sentence("two words, two NUMBERS side by side need one", TextEdgeTests::sideBySide);
        sentence("FAULTS, at the first byte that has one", TextEdgeTests::firstByte);
        sentence("(the end at the text's length)", TextEdgeTests::textsThatBreakOff);
        sentence("of these the least", TextEdgeTests::leastFault);
        sentence("1 it cannot stand there (a word that cannot", TextEdgeTests::eachTokenEverywhere);
        sentence("a 'fact' behind a 'person': at its first letter)", TextEdgeTests::factBehindPerson);
        sentence("1 it cannot stand there", TextEdgeTests::eachByte);
        sentence("2 a NUMBER of four figures or more", TextEdgeTests::fourFigures);
        sentence("or out of its bounds", TextEdgeTests::outOfBounds);
        sentence("a FACT that was not told yet (at its first)", TextEdgeTests::notToldYet);
        sentence("3 'hats' again, a seventh FACT, a sixth PERSON (at its first letter)", TextEdgeTests::oneTooMany);
        sentence("4 an A, an F again (at it)", TextEdgeTests::again);
        sentence("No FACTS, no PERSONS.", TextEdgeTests::newObject);
        sentence("Up to eight bytes (n 1 .. 8) of a long", TextEdgeTests::bytesAtOnce);
        sentence("the highest of these first, come behind THE TEXT", TextEdgeTests::orderOfBytes);
        sentence("OUTSIDE, FULL (400).", TextEdgeTests::fullText);
        sentence("THE TEXT (it is empty then) becomes THE TOWN", TextEdgeTests::emptyThen);
        sentence("all as in its first MORNING; no LOG, INSULTS, BOOK; IMAGES are gone; THE SEED stays", TextEdgeTests::newTown);
        sentence("THE TEXT (it is empty then) becomes THE TOWN (all as in its first MORNING", TextEdgeTests::townBehindTown);
        sentence("-10 less the number of its FAULT (all is as it was)", TextEdgeTests::faultChangesNothing);
        sentence("The byte of the FAULT of the latest town(); NONE.", TextEdgeTests::latestFault);
        end("TextEdgeTests");
    }

    private static String facts(int n) {
        return "fact 1;".repeat(n);
    }

    private static String persons(int n) {
        return "person;".repeat(n);
    }

    private static void longestTexts() {
        good("person;" + " ".repeat(393), 1);
        good(" ".repeat(393) + "person;", 1);
        bad(" ".repeat(394) + "person", 1, 400);
        bad(" ".repeat(399) + "x", 1, 399);
        bad(" ".repeat(399) + "0", 1, 399);
        good(" ".repeat(400), 0);
        good("", 0);
        good(" ", 0);
        String six = facts(5) + "fact 99 follows 0,1,2,3,4;";
        String all = "hats 99;" + six + "person knows 0,1,2,3,4,5;".repeat(5);
        UntoldFacts x = good(all + " ".repeat(400 - all.length()), 5);
        due("person(4, 0)", x.person(4, 0), 63);
        due("person(4, 1)", x.person(4, 1), 104 % 99);
    }

    private static void hatsClauses() {
        bad("hats 0;", 2, 5);
        bad("hats 1;", 2, 5);
        due("told(2)", good("hats 2;", 0).told(2), 2);
        due("told(2)", good("hats 99;", 0).told(2), 99);
        bad("hats 100;", 2, 5);
        bad("hats 999;", 2, 5);
        due("told(2), untold", good("fact 1;person;", 1).told(2), 10);
        UntoldFacts x = good("hats 99;", 0);
        x.town();
        due("told(2), untold behind another town", x.told(2), 10);
        bad("hats 5;hats 5;", 3, 7);
        bad("hats 5;fact 1;hats 6;", 3, 14);
        bad("hats 5;person;hats 6;", 3, 14);
        due("told(2), behind a person", good("person;hats 5;", 1).told(2), 5);
        due("told(2), between facts", good("fact 1;hats 5;fact 1;person;", 1).told(2), 5);
        feedAll(x, "hats 5;");
        due("town(), hats once in each text", x.town(), 0);
        due("told(2)", x.told(2), 5);
    }

    private static void sixFacts() {
        due("told(0)", good("", 0).told(0), 0);
        due("told(0)", good(facts(1), 0).told(0), 1);
        UntoldFacts x = good(facts(5) + "fact 7;", 0);
        due("told(0)", x.told(0), 6);
        due("fact(5, 0)", x.fact(5, 0), 7);
        due("fact(6, 0)", x.fact(6, 0), UNKNOWN);
        bad(facts(7), 3, 42);
        bad(facts(8), 3, 42);
    }

    private static void weights() {
        bad("fact 0;", 2, 5);
        due("fact(0, 0)", good("fact 1;", 0).fact(0, 0), 1);
        due("fact(0, 0)", good("fact 99;", 0).fact(0, 0), 99);
        bad("fact 100;", 2, 5);
        bad(facts(5) + "fact 0;", 2, 40);
        bad(facts(5) + "fact 100;", 2, 40);
    }

    private static void followsClauses() {
        due("fact(0, 1), from none", good("fact 1;", 0).fact(0, 1), 0);
        due("fact(1, 1)", good("fact 1;fact 1 follows 0;", 0).fact(1, 1), 1);
        due("fact(5, 1), from all ahead", good(facts(5) + "fact 1 follows 4,0,3,1,2;", 0).fact(5, 1), 31);
        due("fact(5, 1), from the one just ahead", good(facts(5) + "fact 1 follows 4;", 0).fact(5, 1), 16);
        bad("fact 1 follows 0;", 2, 15);
        bad("fact 1;fact 1 follows 1;", 2, 22);
        bad("fact 1;fact 1 follows 2;fact 1;", 2, 22);
        bad("fact 1;fact 1 follows 0,0;", 4, 24);
        bad("fact 1;fact 1;fact 1 follows 1,0,1;", 4, 33);
        UntoldFacts x = good("fact 1;fact 1;fact 1 follows 0;fact 1 follows 0;", 0);
        due("fact(2, 1), the same for two", x.fact(2, 1), 1);
        due("fact(3, 1), the same for two", x.fact(3, 1), 1);
    }

    private static void fivePersons() {
        for (int n = 0; n <= 5; n++) due("told(1)", good(facts(1) + persons(n), n).told(1), n);
        due("person(4, 0)", good(facts(1) + persons(4) + "person knows 0;", 5).person(4, 0), 1);
        due("person(5, 0)", good(persons(5), 5).person(5, 0), UNKNOWN);
        bad(persons(6), 3, 35);
        bad(persons(7), 3, 35);
        bad("person;fact 1;", 1, 7);
        bad("fact 1;person;fact 1;", 1, 14);
        bad("fact 1;person;hats 5;fact 1;", 1, 21);
    }

    private static void knowsClauses() {
        due("person(0, 0), knows nothing", good(facts(6) + "person;", 1).person(0, 0), 0);
        due("person(0, 0), knows the first", good(facts(6) + "person knows 0;", 1).person(0, 0), 1);
        due("person(0, 0), knows the last", good(facts(6) + "person knows 5;", 1).person(0, 0), 32);
        due("person(0, 0), knows all", good(facts(6) + "person knows 5,4,3,2,1,0;", 1).person(0, 0), 63);
        bad(facts(6) + "person knows 5,5;", 4, 57);
        bad(facts(6) + "person knows 0,1,2,3,4,5,0;", 4, 67);
        bad(facts(6) + "person knows 0,1,2,3,4,5,5;", 4, 67);
        UntoldFacts x = good(facts(1) + "person knows 0;person knows 0;", 2);
        due("fact(0, 2), the same for two", x.fact(0, 2), 3);
    }

    private static void figures() {
        for (String m : new String[] {"5", "05", "005"}) due("told(2)", good("hats " + m + ";", 0).told(2), 5);
        for (String m : new String[] {"10", "010"}) due("told(2)", good("hats " + m + ";", 0).told(2), 10);
        for (String w : new String[] {"7", "07", "007"}) due("fact(0, 0)", good("fact " + w + ";", 0).fact(0, 0), 7);
        for (String a : new String[] {"1", "01", "001"}) {
            due("fact(2, 1)", good(facts(2) + "fact 1 follows " + a + ";", 0).fact(2, 1), 2);
            due("person(0, 0)", good(facts(2) + "person knows " + a + ";", 1).person(0, 0), 2);
        }
        due("person(0, 0)", good(facts(2) + "person knows 000,001;", 1).person(0, 0), 3);
        due("told(2), the greatest figures", good("hats 98;", 0).told(2), 98);
        due("fact(0, 0), the greatest figures", good("fact 89;", 0).fact(0, 0), 89);
    }

    private static void letters() {
        for (String word : new String[] {"hat", "hatss", "ahats", "zhats", "hatsa", "hatsz", "hatz", "gats", "Hats", "HATS"}) {
            bad(word + " 5;", 1, 0);
        }
        for (String word : new String[] {"fac", "facts", "pact", "FACT", "fAct"}) bad(word + " 1;", 1, 0);
        for (String word : new String[] {"perso", "persons", "persom", "Person"}) bad(word + ";", 1, 0);
        for (String word : new String[] {"follow", "followss", "Follows", "knows", "f"}) bad(facts(2).substring(0, 13) + " " + word + " 0;", 1, 14);
        for (String word : new String[] {"know", "knowss", "Knows", "follows", "k"}) bad("fact 1;person " + word + " 0;", 1, 14);
        // Behind a word, the bytes next to the letters and the figures end it, and cannot stand.
        for (char next : new char[] {'`', '{', '@', '[', '/', ':', '-', '.', 'A', 'Z'}) {
            bad("hats" + next + "5;", 1, 4);
            bad("hats 5" + next + ";", 1, 6);
            bad("person" + next + ";", 1, 6);
        }
    }

    private static void blanks() {
        UntoldFacts x = good("  hats  5  ;  fact  1  ;  fact  2  follows  0  ;  person  ;  person  knows  1  ,  0  ;  ", 2);
        due("told(2)", x.told(2), 5);
        due("fact(1, 1)", x.fact(1, 1), 1);
        due("person(1, 0)", x.person(1, 0), 3);
        good("hats 5;fact 1;fact 2 follows 0;person;person knows 1,0;", 2);
        String[] words = {"h ats 5;", "hat s 5;", "f act 1;", "fac t 1;", "p erson;", "perso n;"};
        for (String word : words) bad(word, 1, 0);
        bad("fact 1;fact 1 f ollows 0;", 1, 14);
        bad("fact 1;person know s 0;", 1, 14);
        bad("hats 5 5;", 1, 7);
        bad("hats 1 0;", 2, 5);
        bad("fact 5 5;", 1, 7);
        bad("fact 1;fact 1 follows 0 0;", 1, 24);
        bad("fact 1;person knows 0 0;", 1, 22);
        for (char no : new char[] {0, 9, 10, 11, 12, 13, 31, 33, 127, 128, 160, 255}) {
            bad(no + "person;", 1, 0);
            bad("person" + no + ";", 1, 6);
            bad("person;" + no, 1, 7);
            bad("hats" + no + "5;", 1, 4);
        }
    }

    private static void sideBySide() {
        bad("fact 1;personknows 0;", 1, 7);
        bad("fact 1;personknows0;", 1, 7);
        bad("hats 5;factfact 1;", 1, 7);
        due("told(2), one NUMBER", good("hats 55;", 0).told(2), 55);
        UntoldFacts x = good("hats5;fact1;fact2follows0;person;person knows0,1;", 2);
        due("told(2)", x.told(2), 5);
        due("fact(1, 0)", x.fact(1, 0), 2);
        due("fact(1, 1)", x.fact(1, 1), 1);
        due("person(1, 0)", x.person(1, 0), 3);
    }

    private static void firstByte() {
        bad("hats 1;person person;", 2, 5);
        bad("person person;hats 1;", 1, 7);
        bad("hats 1x", 2, 5);
        bad("fact 0 follows 9;", 2, 5);
        bad("fact 1;fact 1 follows 0,0,7;", 4, 24);
        bad("fact 1;fact 1 follows 7,0,0;", 2, 22);
        bad("hats 5;hats 1000;", 3, 7);
        bad(facts(6) + "fact 0;", 3, 42);
        bad(facts(6) + "fact", 3, 42);
        bad(persons(5) + "person x", 3, 35);
        bad(persons(5) + "person", 3, 35);
        bad("hats 5;hats", 3, 7);
        bad("x" + facts(7), 1, 0);
        bad("person;fact 0;", 1, 7);
    }

    /** Each beginning of a good text: behind a ';' it is good, within a word its first letter has the fault, else the end. */
    private static void textsThatBreakOff() {
        String text = "hats 7 ;fact 1;fact 2 follows 0 ; person;person knows 0, 1;  ";
        int clause = 0;
        int word = 0;
        int persons = 0;
        for (int n = 0; n <= text.length(); n++) {
            String part = text.substring(0, n);
            char last = n == 0 ? ';' : text.charAt(n - 1);
            if (last == ';') clause = n;
            if (last < 'a' || last > 'z') word = n;
            if (part.endsWith("person;") || part.endsWith("1;") && part.contains("knows")) persons++;
            boolean within = word < n && n < text.length() && text.charAt(n) >= 'a' && text.charAt(n) <= 'z';
            if (part.substring(clause).isBlank()) good(part, persons);
            else bad(part, 1, within ? word : n);
        }
        due("persons of the whole", persons, 2);
    }

    private static void leastFault() {
        // 1 ahead of 2: a NUMBER of four figures, or out of bounds, where none can stand.
        bad("5000;", 1, 0);
        bad("hats 5 5000;", 1, 7);
        bad("person 5000;", 1, 7);
        bad("fact 1;fact 1 follows 0 5000;", 1, 24);
        // 1 ahead of 3: 'hats' again, a seventh FACT, a sixth PERSON where none can stand.
        bad("hats hats 5;", 1, 5);
        bad("hats 5 hats 5;", 1, 7);
        bad(facts(6) + "person;fact 1;", 1, 49);
        bad(facts(6).substring(0, 41) + " fact 1;", 1, 42);
        bad(persons(5).substring(0, 34) + " person;", 1, 35);
        // 1 ahead of 4: an A, an F again where none can stand.
        bad("fact 1;fact 1;fact 1 follows 0,1 1;", 1, 33);
        bad("fact 1;person knows 0 0;", 1, 22);
        // 2 ahead of 4: an A, an F again in four figures.
        bad("fact 1;fact 1 follows 0,0000;", 2, 24);
        bad("fact 1;person knows 0,0000;", 2, 22);
    }

    /** What stands ahead, and the fault of each token there: 0 it can stand. Tokens: see TOKENS, then the end. */
    private static void eachTokenEverywhere() {
        each("", "000111111111110");
        each("hats ", "111111220021111");
        each("hats 5 ", "111111111111011");
        each("fact ", "111111200021111");
        each("fact 1;fact 1 ", "111011111111011");
        each("fact 1;fact 1 follows ", "111111022221111");
        each("fact 1;fact 1 follows 0 ", "111111111110011");
        each("fact 1;fact 1;fact 1 follows 0,", "111111402221111");
        each("fact 1;person ", "111101111111011");
        each("fact 1;person knows ", "111111022221111");
        each("fact 1;person knows 0 ", "111111111110011");
        each("fact 1;fact 1;person knows 0,", "111111402221111");
        each("fact 1;", "000111111111110");
        each("hats 5;", "300111111111110");
        each("person;", "010111111111110");
        each(facts(6), "030111111111110");
        each(persons(5), "013111111111110");
    }

    private static void each(String ahead, String faults) {
        for (int k = 0; k <= TOKENS.length; k++) {
            String text = ahead + (k == TOKENS.length ? "" : TOKENS[k]);
            int number = faults.charAt(k) - '0';
            if (number != 0) {
                bad(text, number, ahead.length());
                continue;
            }
            UntoldFacts x = new UntoldFacts();
            feedAll(x, text);
            boolean whole = x.town() >= 0;
            due("fault() of '" + text + "'", x.fault(), whole ? NONE : text.length());
            due("'" + text + "' is whole", whole ? 1 : 0, text.isEmpty() || text.endsWith(";") ? 1 : 0);
        }
    }

    private static void factBehindPerson() {
        bad("person;  fact 1;", 1, 9);
        bad("fact 1;person knows 0;fact 1;", 1, 22);
        bad("person;person;fact", 1, 14);
        bad(facts(6) + persons(5) + "fact 1;", 1, 77);
    }

    /** Each byte by itself, behind a word, and behind a NUMBER. */
    private static void eachByte() {
        for (char b = 0; b < 256; b++) {
            boolean letter = b >= 'a' && b <= 'z', figure = b >= '0' && b <= '9';
            if (b == 32) good("" + b, 0);
            else bad("" + b, 1, 0);
            if (b == 32 || figure) due("told(2)", good("hats" + b + "5;", 0).told(2), figure ? (b - '0') * 10 + 5 : 5);
            else bad("hats" + b + "5;", 1, letter ? 0 : 4);
            if (b == ';') good("hats 5" + b, 0);
            else bad("hats 5" + b, 1, b == 32 || figure ? 7 : 6);
            if (b == ',') due("person(0, 0)", good(facts(2) + "person knows 0" + b + "1;", 1).person(0, 0), 3);
        }
    }

    private static void fourFigures() {
        bad("hats 0005;", 2, 5);
        bad("hats 1000;", 2, 5);
        bad("fact 0001;", 2, 5);
        bad("fact 1;fact 1 follows 0000;", 2, 22);
        bad("fact 1;person knows 0000;", 2, 20);
        bad("hats " + "9".repeat(395), 2, 5);
        bad("hats " + "0".repeat(393) + "5;", 2, 5);
        bad("hats 00005;", 2, 5);
        bad("hats 4294967301;", 2, 5);
        bad("fact 4294967297;", 2, 5);
        bad("fact 1;person knows 4294967296;", 2, 20);
        bad("hats 0005", 2, 5);
    }

    private static void outOfBounds() {
        for (String m : new String[] {"0", "1", "00", "01", "001", "000", "100", "101", "999"}) bad("hats " + m + ";", 2, 5);
        for (String w : new String[] {"0", "00", "000", "100", "999"}) bad("fact " + w + ";", 2, 5);
        bad("hats 1", 2, 5);
        bad("hats    100   ;", 2, 8);
    }

    private static void notToldYet() {
        bad("fact 1 follows 0;", 2, 15);
        for (int told = 1; told < 6; told++) {
            bad(facts(told) + "fact 1 follows " + told + ";", 2, 7 * told + 15);
            bad(facts(told) + "fact 1 follows 0, " + told + ";", 2, 7 * told + 18);
        }
        for (int told = 0; told <= 6; told++) {
            bad(facts(told) + "person knows " + told + ";", 2, 7 * told + 13);
            bad(facts(told) + "person knows 999;", 2, 7 * told + 13);
            if (told > 0) bad(facts(told) + "person knows 0, " + told + ";", 2, 7 * told + 16);
        }
        bad("fact 1;person knows 010;", 2, 20);
    }

    private static void oneTooMany() {
        bad("hats 5;  hats 5;", 3, 9);
        bad("hats 5;hats", 3, 7);
        bad(facts(6) + "  fact 1;", 3, 44);
        bad(facts(6) + "fact", 3, 42);
        bad(persons(5) + "  person;", 3, 37);
        bad(facts(6) + persons(5) + "person knows 0;", 3, 77);
        good(facts(6) + persons(5) + "hats 5;", 5);
    }

    private static void again() {
        bad("fact 1;fact 1 follows 0,0", 4, 24);
        bad("fact 1;fact 1 follows 0 ,  00;", 4, 27);
        bad("fact 1;fact 1 follows 0,000;", 4, 24);
        bad("fact 1;fact 1;fact 1 follows 0,1,0,1;", 4, 33);
        bad("fact 1;person knows 0,0", 4, 22);
        bad("fact 1;person knows 0 ,  00;", 4, 25);
        bad(facts(3) + "person knows 2,1,0,1;", 4, 40);
        for (int f = 0; f < 6; f++) bad(facts(6) + "person knows " + f + "," + f + ";", 4, 57);
        for (int f = 0; f < 5; f++) bad(facts(5) + "fact 1 follows " + f + "," + f + ";", 4, 52);
    }

    private static void newObject() {
        UntoldFacts x = new UntoldFacts();
        int[] want = {0, 0, 10, 0, 0, 0, 1};
        for (int w = 0; w < 7; w++) due("told(" + w + ")", x.told(w), want[w]);
        due("fault()", x.fault(), NONE);
        due("fact(0, 0)", x.fact(0, 0), UNKNOWN);
        due("person(0, 0)", x.person(0, 0), UNKNOWN);
        due("closed(0)", x.closed(0), 0);
        due("closed(1)", x.closed(1), UNKNOWN);
        due("canKnow(0, 1, -1)", x.canKnow(0, 1, -1), UNKNOWN);
        due("sure(0, 1, 0)", x.sure(0, 1, 0), UNKNOWN);
        due("safe(0, 1)", x.safe(0, 1), UNKNOWN);
        due("odds(0, 1, 0)", x.odds(0, 1, 0), UNKNOWN);
        due("best(0, 1)", x.best(0, 1), UNKNOWN);
        due("say(0, 1, 0, 0)", x.say(0, 1, 0, 0), UNKNOWN);
        due("silent(0, 1)", x.silent(0, 1), UNKNOWN);
        due("morning()", x.morning(), 0);
        due("party(0)", x.party(0), 0);
        due("party(1)", x.party(1), UNKNOWN);
        due("plan(0, 1, -1)", x.plan(0, 1, -1), UNKNOWN);
        for (int d = 1; d <= 6; d++) due("hats(" + d + ")", x.hats(d), 2);
        due("common(0, 1, 2)", x.common(0, 1, 2), UNKNOWN);
        due("knew(0, -1)", x.knew(0, -1), UNKNOWN);
        due("bore()", x.bore(), NONE);
        due("log(0, 0)", x.log(0, 0), NONE);
        due("write(0, 1, 0)", x.write(0, 1, 0), UNKNOWN);
        due("tear()", x.tear(), 0);
        due("judge()", x.judge(), NONE);
        due("drift(1, 0)", x.drift(1, 0), NOT);
        due("goBack(0)", x.goBack(0), NOT);
        due("goBack(1)", x.goBack(1), NOT);
        due("seed(0)", x.seed(0), 0);
        due("keep(0)", x.keep(0), 1);
        due("goBack(0)", x.goBack(0), 1);
        due("town()", x.town(), 0);
    }

    private static void bytesAtOnce() {
        for (int n = 1; n <= 8; n++) {
            UntoldFacts x = new UntoldFacts();
            due("feed(" + n + ")", x.feed(n, 0x2020202020202020L), n);
            due("told(3)", x.told(3), n);
            due("town()", x.town(), 0);
        }
        for (int n : new int[] {0, 9, -1, -8, 16, 256, 257, LOW, HIGH}) {
            UntoldFacts x = new UntoldFacts();
            due("feed(" + n + ")", x.feed(n, 0x2020202020202020L), OUTSIDE);
            due("told(3)", x.told(3), 0);
        }
    }

    private static void orderOfBytes() {
        UntoldFacts x = new UntoldFacts();
        due("feed(8) of 'hats 12;'", x.feed(8, 0x686174732031323BL), 8);
        due("town()", x.town(), 0);
        due("told(2)", x.told(2), 12);
        // The bytes above the n lowest do not come.
        due("feed(4) of 'hats'", x.feed(4, 0x3B3B3B3B68617473L), 4);
        due("feed(1) of '2'", x.feed(1, 0xFFFFFFFFFFFFFF32L), 5);
        due("feed(2) of '1;'", x.feed(2, 0x0000000000FF313BL), 7);
        due("town()", x.town(), 0);
        due("told(2)", x.told(2), 21);
        due("feed(8), all bytes high", x.feed(8, -1L), 8);
        due("town()", x.town(), -11);
        due("fault()", x.fault(), 0);
        due("feed(8), the highest alone", x.feed(8, 0x8020202020202020L), 8);
        due("town()", x.town(), -11);
        due("fault()", x.fault(), 0);
        due("feed(8), the lowest alone", x.feed(8, 0x2020202020202000L), 8);
        due("town()", x.town(), -11);
        due("fault()", x.fault(), 7);
    }

    private static void fullText() {
        for (int room = 0; room <= 8; room++) {
            UntoldFacts x = new UntoldFacts();
            feedAll(x, " ".repeat(400 - room));
            for (int n = room + 1; n <= 8; n++) due("feed(" + n + ") where " + room + " have room", x.feed(n, 0L), FULL);
            due("feed(9) where " + room + " have room", x.feed(9, 0L), OUTSIDE);
            due("feed(0) where " + room + " have room", x.feed(0, 0L), OUTSIDE);
            due("told(3)", x.told(3), 400 - room);
            if (room > 0) due("feed(" + room + ")", x.feed(room, 0x2020202020202020L), 400);
            due("feed(1), full", x.feed(1, 32L), FULL);
            due("told(3)", x.told(3), 400);
            due("town(), nothing of what was refused is in it", x.town(), 0);
            due("feed(1), empty again", x.feed(1, 32L), 1);
        }
    }

    private static void emptyThen() {
        UntoldFacts x = good("person;", 1);
        due("town() of an empty text", x.town(), 0);
        due("told(1)", x.told(1), 0);
        feedAll(x, "person");
        due("town()", x.town(), -11);
        due("told(3), behind a fault", x.told(3), 0);
        feedAll(x, "person;person;");
        due("town(), nothing of the faulty text is left", x.town(), 2);
        due("fault()", x.fault(), NONE);
    }

    private static void newTown() {
        UntoldFacts x = told(SEVEN);
        x.say(3, 2, 1, 1);
        x.say(3, 2, 1, 1);
        x.silent(0, 2);
        x.morning();
        x.say(3, 2, 1, 0);
        x.write(0, 1, 0);
        x.keep(0);
        x.keep(1);
        x.seed(77);
        feedAll(x, SEVEN);
        due("town(), the same once more", x.town(), 4);
        UntoldFacts y = told(SEVEN);
        due("seed(77)", y.seed(77), 0);
        holds("it is as a new one", sight(x).equals(sight(y)));
        due("told(4)", x.told(4), 0);
        due("told(5)", x.told(5), 0);
        due("person(3, 2)", x.person(3, 2), 0);
        due("goBack(0)", x.goBack(0), NOT);
        due("goBack(1)", x.goBack(1), NOT);
        due("seed(0)", x.seed(0), 77);
        x.write(0, 1, 0);
        x.keep(0);
        due("town() of nothing", x.town(), 0);
        int[] want = {0, 0, 10, 0, 0, 0, 1};
        for (int w = 0; w < 7; w++) due("told(" + w + ")", x.told(w), want[w]);
        due("goBack(0)", x.goBack(0), NOT);
    }

    /** A town behind another one, of more or fewer FACTS, PERSONS and HATS, is as it is on a new object. */
    private static void townBehindTown() {
        String[] towns = {"", "person;", ONE, TWO, SEVEN, PLAIN, BLIND, "hats 99;" + facts(6) + "person knows 0,1,2,3,4,5;".repeat(5),
            "hats 99;fact 1;fact 2;person knows 0;person knows 1;", "fact 3;fact 1 follows 0;person;person;person;person knows 0;"};
        for (String first : towns) {
            for (String then : towns) {
                UntoldFacts x = told(first);
                talk(x);
                feedAll(x, then);
                x.town();
                x.seed(0);
                UntoldFacts y = told(then);
                holds("'" + then + "' behind '" + first + "'", talk(x).equals(talk(y)));
            }
        }
    }

    private static List<Integer> talk(UntoldFacts x) {
        List<Integer> all = new ArrayList<>();
        all.add(x.bore());
        all.add(x.hats(6));
        all.add(x.hats(1));
        for (int i = -1; i < 4; i++) all.add(x.plan(0, 1, i));
        all.add(x.write(0, 1, 0));
        all.add(x.judge());
        all.add(x.silent(1, 0));
        all.add(x.party(x.told(0) == 0 ? 0 : 1));
        all.add(x.say(0, 1, 0, 0));
        all.add(x.morning());
        all.add(x.drift(7, 0));
        for (int p = 0; p < 6; p++) all.add(x.knew(p, NONE));
        for (int p = 0; p < 5; p++) for (int q = 0; q < 6; q++) all.add(x.canKnow(p, q, NONE));
        for (int p = 0; p < 6; p++) for (int w = 0; w < 4; w++) all.add(x.person(p, w));
        for (int f = 0; f < 7; f++) for (int w = 0; w < 3; w++) all.add(x.fact(f, w));
        all.add(x.party(x.told(0) == 0 ? 0 : (1 << x.told(0)) - 1));
        all.add(x.bore());
        all.add(x.tear());
        return all;
    }

    private static void faultChangesNothing() {
        String[] texts = {"x", "hats 1;", "hats 5;hats 5;", "fact 1;person knows 0,0;", "hats 5;fact 9;person;person"};
        int[] answers = {-11, -12, -13, -14, -11};
        int[] bytes = {0, 5, 7, 22, 27};
        for (int k = 0; k < texts.length; k++) {
            UntoldFacts x = busy();
            UntoldFacts y = busy();
            feedAll(x, texts[k]);
            due("town() of '" + texts[k] + "'", x.town(), answers[k]);
            due("fault() of '" + texts[k] + "'", x.fault(), bytes[k]);
            likeButFault(x, y);
            due("goBack(0), not kept", x.goBack(0), NOT);
            due("goBack(1), still kept", x.goBack(1), y.goBack(1));
            likeButFault(x, y);
        }
    }

    private static void likeButFault(UntoldFacts x, UntoldFacts y) {
        List<Integer> want = sight(y);
        want.set(7, x.fault());
        holds("all is as it was", sight(x).equals(want));
    }

    private static UntoldFacts busy() {
        UntoldFacts x = told(SEVEN);
        x.say(0, 1, 0, 4);
        x.keep(1);
        x.say(0, 1, 0, 0);
        x.silent(3, 2);
        x.write(0, 2, 2);
        x.seed(99);
        return x;
    }

    private static void latestFault() {
        UntoldFacts x = new UntoldFacts();
        due("fault(), no town() yet", x.fault(), NONE);
        feedAll(x, "hats 1;");
        due("fault() ahead of town()", x.fault(), NONE);
        x.town();
        due("fault()", x.fault(), 5);
        feedAll(x, "person x");
        due("fault() until the next town()", x.fault(), 5);
        x.feed(9, 0L);
        x.morning();
        x.keep(0);
        x.goBack(0);
        due("fault(), whatever else was called", x.fault(), 5);
        x.town();
        due("fault() of the latest", x.fault(), 7);
        x.town();
        due("fault() of an empty text", x.fault(), NONE);
        feedAll(x, "?");
        x.town();
        due("fault() at the first byte", x.fault(), 0);
        feedAll(x, "person;");
        x.town();
        due("fault() without one", x.fault(), NONE);
    }
}
