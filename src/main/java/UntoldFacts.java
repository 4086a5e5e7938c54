/**
 * Only what the other does not know: a town of facts and people who may tell
 * each other nothing that is known already. The document DOC.md says what
 * every call answers.
 *
 * All calls work on rows that the constructor made: no call makes an object.
 */
public final class UntoldFacts {
    public static final int NONE = -1, UNKNOWN = -1000000001, OUTSIDE = -1000000002, NOT = -1000000003, FULL = -1000000004;

    private static final int MOST_FACTS = 6;
    private static final int MOST_PERSONS = 5;
    private static final int MOST_HATS = 99;
    private static final int MILLION = 1000000;
    private static final int IMAGES = 2;
    private static final int MOST_DRIFT = 99;

    private final Text text;
    private final Reader reader;
    private final Planner planner;
    private final HatCounter hatCounter;
    private final Book book;
    private final Talk now;
    private final Talk[] images;
    private final boolean[] kept;
    private Town place;
    private Town draft;
    private int faultAt;

    public UntoldFacts() {
        text = new Text();
        place = new Town();
        draft = new Town();
        reader = new Reader(text, draft);
        planner = new Planner(place);
        hatCounter = new HatCounter();
        book = new Book();
        now = new Talk();
        images = new Talk[IMAGES];
        for (int i = 0; i < IMAGES; i++) {
            images[i] = new Talk();
        }
        kept = new boolean[IMAGES];
        faultAt = NONE;
        place.clear();
        place.settle();
        now.begin(place);
    }

    // ---- the town

    public int feed(int n, long bytes) {
        if (n < 1 || n > Text.MOST_AT_ONCE) {
            return OUTSIDE;
        }
        return text.append(n, bytes) ? text.length : FULL;
    }

    public int town() {
        int number = reader.read(draft);
        text.length = 0;
        faultAt = reader.faultAt;
        if (number != 0) {
            return -10 - number;
        }
        Town old = place;
        place = draft;
        draft = old;
        place.settle();
        now.begin(place);
        book.count = 0;
        for (int i = 0; i < IMAGES; i++) {
            kept[i] = false;
        }
        return place.persons;
    }

    public int fault() {
        return faultAt;
    }

    public int told(int what) {
        switch (what) {
            case 0: return place.facts;
            case 1: return place.persons;
            case 2: return place.hatCount;
            case 3: return text.length;
            case 4: return now.logged;
            case 5: return book.count;
            case 6: return Long.bitCount(place.closedSets);
            default: return OUTSIDE;
        }
    }

    public int fact(int f, int what) {
        if (!isFact(f)) {
            return UNKNOWN;
        }
        switch (what) {
            case 0: return place.weight[f];
            case 1: return place.follows[f];
            case 2: return now.whoKnows(place, f);
            default: return OUTSIDE;
        }
    }

    public int person(int p, int what) {
        if (!isPerson(p)) {
            return UNKNOWN;
        }
        switch (what) {
            case 0: return now.known[p];
            case 1: return now.hat[p];
            case 2: return now.insults[p];
            case 3: return now.plainLack(place, p);
            default: return OUTSIDE;
        }
    }

    public int closed(int set) {
        return isFactSet(set) ? place.closure(set) : UNKNOWN;
    }

    // ---- what others can know

    public int canKnow(int p, int q, int i) {
        return areTwo(p, q) ? Family.countOrSet(now.view(p, q), i) : UNKNOWN;
    }

    public int sure(int p, int q, int what) {
        if (!areTwo(p, q)) {
            return UNKNOWN;
        }
        switch (what) {
            case 0: return now.sureKnown(place, p, q);
            case 1: return now.sureLacked(place, p, q);
            default: return OUTSIDE;
        }
    }

    public int safe(int a, int b) {
        return areTwo(a, b) ? now.safeFacts(place, a, b) : UNKNOWN;
    }

    public int odds(int a, int b, int f) {
        return areTwo(a, b) && isFact(f) ? now.chance(a, b, f) : UNKNOWN;
    }

    public int best(int a, int b) {
        return areTwo(a, b) ? now.bestSaying(place, a, b) : UNKNOWN;
    }

    // ---- talks

    public int say(int a, int b, int f, int listeners) {
        if (!areTwo(a, b) || !isFact(f) || !isPersonSet(listeners)) {
            return UNKNOWN;
        }
        if (has(listeners, a) || has(listeners, b)) {
            return UNKNOWN;
        }
        return has(now.known[a], f) ? now.speak(place, a, b, f, listeners) : NOT;
    }

    public int silent(int a, int b) {
        return areTwo(a, b) ? now.holdTongue(place, a, b) : UNKNOWN;
    }

    public int morning() {
        return now.wake(place);
    }

    public int party(int set) {
        if (!isFactSet(set)) {
            return UNKNOWN;
        }
        int sayings = 0;
        // What was said before all is safe for nobody any more: never more sayings than facts.
        while (sayings < MOST_FACTS && sayFirstSafe(set)) {
            sayings++;
        }
        return sayings;
    }

    private boolean sayFirstSafe(int set) {
        for (int a = 0; a < place.persons; a++) {
            for (int b = 0; b < place.persons; b++) {
                int choice = a == b ? 0 : now.safeFacts(place, a, b) & set;
                if (choice != 0) {
                    int others = everybody() & ~(1 << a | 1 << b);
                    now.speak(place, a, b, Integer.numberOfTrailingZeros(choice), others);
                    return true;
                }
            }
        }
        return false;
    }

    // ---- plans

    public int plan(int a, int b, int i) {
        if (!areTwo(a, b)) {
            return UNKNOWN;
        }
        planner.find(place, now, a, b);
        return i == NONE ? planner.count : planner.part(i);
    }

    public int hats(int d) {
        return d >= 1 && d <= MOST_FACTS ? hatCounter.least(place, d) : OUTSIDE;
    }

    public int common(int c, int a, int b) {
        if (!areTwo(c, a) || !areTwo(c, b) || !areTwo(a, b)) {
            return UNKNOWN;
        }
        return now.sureKnown(place, c, a) & now.sureKnown(place, c, b);
    }

    public int knew(int q, int i) {
        return isPerson(q) ? Family.countOrSet(now.knownAtFirst(place, q), i) : UNKNOWN;
    }

    public int bore() {
        int found = NONE;
        int least = 0;
        for (int p = 0; p < place.persons; p++) {
            int sum = now.sureness(place, p);
            if (found == NONE || sum < least) {
                found = p;
                least = sum;
            }
        }
        return found;
    }

    // ---- logs, books

    public int log(int i, int what) {
        if (what < 0 || what >= Talk.LOG_ROW) {
            return OUTSIDE;
        }
        return i >= 0 && i < now.logged ? now.logRows[i * Talk.LOG_ROW + what] : NONE;
    }

    public int write(int a, int b, int f) {
        if (!areTwo(a, b) || !isFact(f)) {
            return UNKNOWN;
        }
        return book.append(a, b, f) ? book.count : FULL;
    }

    public int tear() {
        int had = book.count;
        book.count = 0;
        return had;
    }

    public int judge() {
        return book.firstWrong(place, now);
    }

    // ---- draws, images

    public int drift(int n, int q) {
        if (n < 1 || n > MOST_DRIFT || q < 0 || q > MILLION) {
            return OUTSIDE;
        }
        if (place.persons < 2) {
            return NOT;
        }
        int insults = 0;
        for (int k = 0; k < n; k++) {
            insults += driftOnce(q);
        }
        return insults;
    }

    private int driftOnce(int q) {
        int a = now.draw(place.persons);
        int b = now.draw(place.persons - 1);
        if (b >= a) {
            b++;
        }
        int f = now.bestSaying(place, a, b);
        if (f != NONE && now.chance(a, b, f) >= q) {
            return now.speak(place, a, b, f, 0);
        }
        now.holdTongue(place, a, b);
        return 0;
    }

    public int seed(int v) {
        if (v < 0) {
            return OUTSIDE;
        }
        int was = now.drawn;
        now.drawn = v;
        return was;
    }

    public int keep(int i) {
        if (!isImage(i)) {
            return UNKNOWN;
        }
        images[i].copyFrom(now);
        kept[i] = true;
        return 1;
    }

    public int goBack(int i) {
        if (!isImage(i)) {
            return UNKNOWN;
        }
        if (!kept[i]) {
            return NOT;
        }
        now.copyFrom(images[i]);
        return 1;
    }

    // ---- what there is

    private boolean isFact(int f) {
        return f >= 0 && f < place.facts;
    }

    private boolean isPerson(int p) {
        return p >= 0 && p < place.persons;
    }

    private boolean areTwo(int a, int b) {
        return isPerson(a) && isPerson(b) && a != b;
    }

    private boolean isFactSet(int set) {
        return set >= 0 && set < 1 << place.facts;
    }

    private boolean isPersonSet(int set) {
        return set >= 0 && set <= everybody();
    }

    private boolean isImage(int i) {
        return i >= 0 && i < IMAGES;
    }

    private int everybody() {
        return (1 << place.persons) - 1;
    }

    private static boolean has(int set, int k) {
        return (set >> k & 1) != 0;
    }

    /**
     * A family of SETS is a long: bit s stands for the SET s (6 FACTS have 64
     * SETS), so that a rule for every SET of it is one step on the long.
     */
    static final class Family {
        private static final int SETS = 64;
        /** At f the family of all SETS that have f. */
        private static final long[] WITH = {
            0xAAAAAAAAAAAAAAAAL, 0xCCCCCCCCCCCCCCCCL, 0xF0F0F0F0F0F0F0F0L,
            0xFF00FF00FF00FF00L, 0xFFFF0000FFFF0000L, 0xFFFFFFFF00000000L};

        static long having(long family, int f) {
            return f >= 0 && f < WITH.length ? family & WITH[f] : 0L;
        }

        static long lacking(long family, int f) {
            return f >= 0 && f < WITH.length ? family & ~WITH[f] : family;
        }

        static long havingAll(long family, int set) {
            long rest = family;
            for (int f = 0; f < MOST_FACTS; f++) {
                if (has(set, f)) {
                    rest = having(rest, f);
                }
            }
            return rest;
        }

        static long havingNone(long family, int set) {
            long rest = family;
            for (int f = 0; f < MOST_FACTS; f++) {
                if (has(set, f)) {
                    rest = lacking(rest, f);
                }
            }
            return rest;
        }

        /** The SETS of a family, f put to each of them. */
        static long put(long family, int f) {
            return having(family, f) | lacking(family, f) << (1 << f);
        }

        /** FACTS that are in all SETS; none, if there are no SETS. */
        static int inAll(long family, int facts) {
            int set = 0;
            for (int f = 0; f < facts && family != 0L; f++) {
                if (lacking(family, f) == 0L) {
                    set |= 1 << f;
                }
            }
            return set;
        }

        /** FACTS that are in no SET; none, if there are no SETS. */
        static int inNone(long family, int facts) {
            int set = 0;
            for (int f = 0; f < facts && family != 0L; f++) {
                if (having(family, f) == 0L) {
                    set |= 1 << f;
                }
            }
            return set;
        }

        static boolean holds(long family, int set) {
            return (family >>> set & 1L) != 0L;
        }

        /** How many SETS (i is NONE), or the i-th by rising numbers. */
        static int countOrSet(long family, int i) {
            if (i == NONE) {
                return Long.bitCount(family);
            }
            int ahead = 0;
            for (int set = 0; set < SETS; set++) {
                if (holds(family, set)) {
                    if (ahead == i) {
                        return set;
                    }
                    ahead++;
                }
            }
            return NONE;
        }
    }

    /** THE TEXT, as it is fed. */
    static final class Text {
        private static final int MOST = 400;
        static final int MOST_AT_ONCE = 8;

        final int[] bytes = new int[MOST];
        int length;

        boolean append(int n, long from) {
            if (n < 0 || length + n > MOST) {
                return false;
            }
            for (int k = 0; k < n; k++) {
                bytes[length + k] = (int) (from >>> 8 * (n - 1 - k)) & 255;
            }
            length += n;
            return true;
        }
    }

    /** FACTS and PERSONS as told, and what follows from these alone. */
    static final class Town {
        private static final int HATS_UNTOLD = 10;

        int facts;
        int persons;
        int hatCount;
        final int[] weight = new int[MOST_FACTS];
        final int[] follows = new int[MOST_FACTS];
        final int[] toldKnown = new int[MOST_PERSONS];
        /** At f the family of SETS that cannot be without f. */
        final long[] needing = new long[MOST_FACTS];
        /** At h the family of CLOSED SETS with HAT h. */
        final long[] wearing = new long[MOST_HATS];
        long closedSets;

        void clear() {
            facts = 0;
            persons = 0;
            hatCount = HATS_UNTOLD;
        }

        void addFact(int itsWeight, int from) {
            if (facts < MOST_FACTS) {
                weight[facts] = itsWeight;
                follows[facts] = from;
                facts++;
            }
        }

        void addPerson(int knows) {
            if (persons < MOST_PERSONS) {
                toldKnown[persons] = knows;
                persons++;
            }
        }

        /** Once all is told: the tables. */
        void settle() {
            int sets = 1 << facts;
            closedSets = -1L >>> Family.SETS - sets;
            for (int f = 0; f < facts; f++) {
                needing[f] = follows[f] == 0 ? 0L : Family.havingAll(-1L, follows[f]);
                closedSets &= ~Family.lacking(needing[f], f);
            }
            for (int h = 0; h < MOST_HATS; h++) {
                wearing[h] = 0L;
            }
            for (int set = 0; set < sets; set++) {
                if (Family.holds(closedSets, set)) {
                    wearing[hatOf(set)] |= 1L << set;
                }
            }
        }

        /** FACTS that FOLLOW from others. */
        int followers() {
            int set = 0;
            for (int f = 0; f < facts; f++) {
                if (follows[f] != 0) {
                    set |= 1 << f;
                }
            }
            return set;
        }

        int weightOf(int set) {
            int sum = 0;
            for (int f = 0; f < facts; f++) {
                if (has(set, f)) {
                    sum += weight[f];
                }
            }
            return sum;
        }

        int hatOf(int set) {
            return hatCount > 0 && hatCount <= MOST_HATS ? weightOf(set) % hatCount : 0;
        }

        long wearers(int hat) {
            return hat >= 0 && hat < MOST_HATS ? wearing[hat] : 0L;
        }

        /** One pass is enough: a FACT follows only from those told ahead of it. */
        int closure(int set) {
            int whole = set;
            for (int f = 0; f < facts; f++) {
                if (follows[f] != 0 && (whole & follows[f]) == follows[f]) {
                    whole |= 1 << f;
                }
            }
            return whole;
        }

        /** Each SET of a family with f, CLOSED. */
        long learned(long family, int f) {
            long whole = Family.put(family, f);
            for (int g = 0; g < facts; g++) {
                long bare = Family.lacking(whole & needing[g], g);
                whole = whole & ~bare | Family.put(bare, g);
            }
            return whole;
        }

        /** What a family becomes of SETS that the hearer of f can know. */
        long heard(long family, int f, boolean insult) {
            return learned(insult ? Family.having(family, f) : Family.lacking(family, f), f);
        }
    }

    /** Reads THE TEXT into a town, up to the first fault. */
    static final class Reader {
        private static final int END = 0, WORD = 1, NUMBER = 2, SIGN = 3;
        private static final int CANNOT_STAND = 1, BAD_NUMBER = 2, TOO_MANY = 3, AGAIN = 4;
        private static final int MOST_FIGURES = 3;
        private static final int BLANK = 32;

        private final Text text;
        private Town town;
        private boolean hatsTold;
        private int kind;
        private int start;
        private int end;
        private int value;
        private int faultNumber;
        int faultAt;

        Reader(Text text, Town town) {
            this.text = text;
            this.town = town;
        }

        /** The number of the first fault, 0 without one. */
        int read(Town into) {
            town = into;
            town.clear();
            hatsTold = false;
            faultNumber = 0;
            faultAt = NONE;
            end = 0;
            step();
            // A clause has a byte at least.
            for (int k = 0; k < Text.MOST && kind != END && faultNumber == 0; k++) {
                readClause();
            }
            return faultNumber;
        }

        private void readClause() {
            if (isWord("hats")) {
                readHats();
            } else if (isWord("fact")) {
                readFact();
            } else if (isWord("person")) {
                readPerson();
            } else {
                fail(CANNOT_STAND);
            }
        }

        private void readHats() {
            if (hatsTold) {
                fail(TOO_MANY);
                return;
            }
            hatsTold = true;
            step();
            int count = readNumber(2, MOST_HATS);
            readEnd();
            if (faultNumber == 0) {
                town.hatCount = count;
            }
        }

        private void readFact() {
            if (town.persons > 0) {
                fail(CANNOT_STAND);
            } else if (town.facts == MOST_FACTS) {
                fail(TOO_MANY);
            }
            step();
            int weight = readNumber(1, 99);
            int from = isWord("follows") ? readList() : 0;
            readEnd();
            if (faultNumber == 0) {
                town.addFact(weight, from);
            }
        }

        private void readPerson() {
            if (town.persons == MOST_PERSONS) {
                fail(TOO_MANY);
            }
            step();
            int knows = isWord("knows") ? readList() : 0;
            readEnd();
            if (faultNumber == 0) {
                town.addPerson(knows);
            }
        }

        /** Behind the word that stands now: FACTS told ahead, unlike. */
        private int readList() {
            int set = 0;
            boolean more = true;
            // Unlike ones are six at most: a seventh has a fault.
            for (int k = 0; more && k <= MOST_FACTS; k++) {
                step();
                int at = start;
                int f = readNumber(0, town.facts - 1);
                if (faultNumber == 0 && has(set, f)) {
                    failAt(AGAIN, at);
                }
                more = faultNumber == 0 && isSign(',');
                set |= faultNumber == 0 ? 1 << f : 0;
            }
            return set;
        }

        private int readNumber(int low, int high) {
            int read = value;
            if (kind != NUMBER) {
                fail(CANNOT_STAND);
            } else if (end - start > MOST_FIGURES || read < low || read > high) {
                fail(BAD_NUMBER);
            }
            step();
            return read;
        }

        private void readEnd() {
            if (!isSign(';')) {
                fail(CANNOT_STAND);
            }
            step();
        }

        private void fail(int number) {
            failAt(number, start);
        }

        /** Only the first fault counts. */
        private void failAt(int number, int at) {
            if (faultNumber == 0) {
                faultNumber = number;
                faultAt = at;
            }
        }

        /** To the next word, NUMBER or sign; not beyond a fault. */
        private void step() {
            if (faultNumber != 0) {
                return;
            }
            start = end;
            while (start < text.length && byteAt(start) == BLANK) {
                start++;
            }
            kind = kindAt(start);
            end = kind == END ? start : start + 1;
            while (kind != SIGN && end < text.length && kindAt(end) == kind) {
                end++;
            }
            value = kind == NUMBER ? valueOfToken() : 0;
        }

        private int valueOfToken() {
            int sum = 0;
            for (int k = start; k < end && k < text.length && k < start + MOST_FIGURES; k++) {
                sum = sum * 10 + text.bytes[k] - '0';
            }
            return sum;
        }

        private int kindAt(int at) {
            if (at < 0 || at >= text.length) {
                return END;
            }
            int sign = text.bytes[at];
            if (sign >= 'a' && sign <= 'z') {
                return WORD;
            }
            return sign >= '0' && sign <= '9' ? NUMBER : SIGN;
        }

        private int byteAt(int at) {
            return at >= 0 && at < text.length ? text.bytes[at] : 0;
        }

        private boolean isSign(char sign) {
            return kind == SIGN && byteAt(start) == sign;
        }

        private boolean isWord(String word) {
            if (kind != WORD || end - start != word.length()) {
                return false;
            }
            for (int k = 0; k < word.length(); k++) {
                if (byteAt(start + k) != word.charAt(k)) {
                    return false;
                }
            }
            return true;
        }
    }

    /** What is known, HATS, CAN KNOW, THE LOG, INSULTS, THE SEED: all that an IMAGE keeps. */
    static final class Talk {
        private static final int MOST_LOGGED = 60;
        static final int LOG_ROW = 5;

        final int[] known = new int[MOST_PERSONS];
        final int[] hat = new int[MOST_PERSONS];
        final int[] insults = new int[MOST_PERSONS];
        /** At p * MOST_PERSONS + q the family of SETS that q CAN KNOW as far as p sees. */
        final long[] views = new long[MOST_PERSONS * MOST_PERSONS];
        final int[] logRows = new int[MOST_LOGGED * LOG_ROW];
        int logged;
        int drawn;

        void copyFrom(Talk other) {
            System.arraycopy(other.known, 0, known, 0, MOST_PERSONS);
            System.arraycopy(other.hat, 0, hat, 0, MOST_PERSONS);
            System.arraycopy(other.insults, 0, insults, 0, MOST_PERSONS);
            System.arraycopy(other.views, 0, views, 0, MOST_PERSONS * MOST_PERSONS);
            System.arraycopy(other.logRows, 0, logRows, 0, MOST_LOGGED * LOG_ROW);
            logged = other.logged;
            drawn = other.drawn;
        }

        /** The first MORNING; THE SEED stays. */
        void begin(Town town) {
            for (int p = 0; p < town.persons; p++) {
                known[p] = town.closure(town.toldKnown[p]);
                hat[p] = town.hatOf(known[p]);
                insults[p] = 0;
            }
            for (int p = 0; p < town.persons; p++) {
                for (int q = 0; q < town.persons; q++) {
                    views[p * MOST_PERSONS + q] = town.wearers(hat[q]);
                }
            }
            logged = 0;
        }

        int wake(Town town) {
            int changed = 0;
            for (int q = 0; q < town.persons; q++) {
                int anew = town.hatOf(known[q]);
                if (anew != hat[q]) {
                    changed |= 1 << q;
                }
                hat[q] = anew;
            }
            for (int p = 0; p < town.persons; p++) {
                for (int q = 0; q < town.persons; q++) {
                    long wearers = town.wearers(hat[q]);
                    views[p * MOST_PERSONS + q] = Family.havingAll(wearers, sureKnown(town, p, q));
                }
            }
            logged = 0;
            return changed;
        }

        long view(int p, int q) {
            boolean there = p >= 0 && p < MOST_PERSONS && q >= 0 && q < MOST_PERSONS;
            return there ? views[p * MOST_PERSONS + q] : 0L;
        }

        int sureKnown(Town town, int p, int q) {
            return Family.inAll(view(p, q), town.facts);
        }

        int sureLacked(Town town, int p, int q) {
            return Family.inNone(view(p, q), town.facts);
        }

        /** How many FACTS p is SURE of in all others. */
        int sureness(Town town, int p) {
            int sum = 0;
            for (int q = 0; q < town.persons; q++) {
                if (q != p) {
                    sum += Integer.bitCount(sureKnown(town, p, q));
                    sum += Integer.bitCount(sureLacked(town, p, q));
                }
            }
            return sum;
        }

        int safeFacts(Town town, int a, int b) {
            return known[a] & sureLacked(town, a, b);
        }

        /** ODDS of f for a to b. */
        int chance(int a, int b, int f) {
            long family = view(a, b);
            int all = Long.bitCount(family);
            return all == 0 ? 0 : Long.bitCount(Family.lacking(family, f)) * MILLION / all;
        }

        int bestSaying(Town town, int a, int b) {
            int found = NONE;
            int greatest = NONE;
            for (int f = 0; f < town.facts; f++) {
                if (has(known[a], f) && chance(a, b, f) > greatest) {
                    found = f;
                    greatest = chance(a, b, f);
                }
            }
            return found;
        }

        int whoKnows(Town town, int f) {
            int set = 0;
            for (int p = 0; p < town.persons; p++) {
                if (has(known[p], f)) {
                    set |= 1 << p;
                }
            }
            return set;
        }

        int plainLack(Town town, int p) {
            return Family.inNone(town.wearers(hat[p]), town.facts);
        }

        /** SAID, all being tested: 1 an INSULT, 0 not. */
        int speak(Town town, int a, int b, int f, int listeners) {
            int insult = has(known[b], f) ? 1 : 0;
            show(town, a, b, f, listeners | 1 << a | 1 << b);
            for (int p = 0; p < town.persons; p++) {
                if (p == b || has(listeners, p)) {
                    known[p] = town.closure(known[p] | 1 << f);
                }
            }
            insults[a] += insult;
            if (logged < MOST_LOGGED) {
                note(a, b, f, listeners, insult);
            }
            return insult;
        }

        /** A saying as all who see it take it, ahead of what it teaches. */
        private void show(Town town, int a, int b, int f, int seers) {
            boolean insult = has(known[b], f);
            for (int p = 0; p < town.persons; p++) {
                for (int q = 0; q < town.persons; q++) {
                    if (p == q || !has(seers, p) || !has(seers, q)) {
                        continue;
                    }
                    int at = p * MOST_PERSONS + q;
                    if (q == a) {
                        views[at] = Family.having(views[at], f);
                    } else if (q == b) {
                        views[at] = town.heard(views[at], f, insult);
                    } else {
                        views[at] = town.learned(views[at], f);
                    }
                }
            }
        }

        private void note(int a, int b, int f, int listeners, int insult) {
            int at = logged * LOG_ROW;
            logRows[at] = a;
            logRows[at + 1] = b;
            logRows[at + 2] = f;
            logRows[at + 3] = listeners;
            logRows[at + 4] = insult;
            logged++;
        }

        /** a is SILENT to b: how many SETS are struck. */
        int holdTongue(Town town, int a, int b) {
            int waitedFor = plainLack(town, b) & ~known[b];
            long before = views[b * MOST_PERSONS + a];
            long after = Family.havingNone(before, waitedFor);
            views[b * MOST_PERSONS + a] = after;
            return Long.bitCount(before) - Long.bitCount(after);
        }

        /** The family of SETS that q can have known in the latest MORNING, by THE LOG. */
        long knownAtFirst(Town town, int q) {
            long candidates = town.wearers(hat[q]);
            long fitting = 0L;
            for (int set = 0; set < Family.SETS; set++) {
                if (Family.holds(candidates, set) && fitsLog(town, q, set)) {
                    fitting |= 1L << set;
                }
            }
            return fitting;
        }

        private boolean fitsLog(Town town, int q, int atFirst) {
            int set = atFirst;
            for (int i = 0; i < logged && i < MOST_LOGGED; i++) {
                int at = i * LOG_ROW;
                boolean knows = has(set, logRows[at + 2]);
                boolean hears = logRows[at + 1] == q;
                if (logRows[at] == q && !knows) {
                    return false;
                }
                if (hears && knows != (logRows[at + 4] == 1)) {
                    return false;
                }
                if (hears || has(logRows[at + 3], q)) {
                    set = town.closure(set | 1 << logRows[at + 2]);
                }
            }
            return true;
        }

        /** The DRAW of n. */
        int draw(int n) {
            drawn = (int) (drawn * 1103515245L + 12345L & 0x7FFFFFFFL);
            return n > 0 ? drawn / 65536 % n : 0;
        }
    }

    /** THE BOOK. */
    static final class Book {
        private static final int MOST = 30;

        private final int[] speaker = new int[MOST];
        private final int[] hearer = new int[MOST];
        private final int[] subject = new int[MOST];
        private final int[] known = new int[MOST_PERSONS];
        int count;

        boolean append(int a, int b, int f) {
            if (count >= MOST) {
                return false;
            }
            speaker[count] = a;
            hearer[count] = b;
            subject[count] = f;
            count++;
            return true;
        }

        /** Its PERSONS and FACTS are there: a new town comes with an empty book. */
        int firstWrong(Town town, Talk now) {
            System.arraycopy(now.known, 0, known, 0, MOST_PERSONS);
            for (int k = 0; k < count && k < MOST; k++) {
                int b = hearer[k];
                int f = subject[k];
                if (!has(known[speaker[k]], f) || has(known[b], f)) {
                    return k;
                }
                known[b] = town.closure(known[b] | 1 << f);
            }
            return NONE;
        }
    }

    /** PLAN for two: all plans of 0 sayings are tried, then all of 1, and so on. */
    static final class Planner {
        private static final int MOST_SAYINGS = 6;

        private final int[] speaker = new int[MOST_SAYINGS];
        private final int[] subject = new int[MOST_SAYINGS];
        private Town town;
        private int first;
        private int second;
        private int goal;
        private int onlyTold;
        private int limit;
        /** Of the plan found; NONE. */
        int count;

        Planner(Town town) {
            this.town = town;
        }

        void find(Town in, Talk now, int a, int b) {
            town = in;
            first = a;
            second = b;
            goal = now.known[a] | now.known[b];
            onlyTold = goal & ~in.followers();
            count = NONE;
            for (int sayings = 0; sayings <= MOST_SAYINGS && count == NONE; sayings++) {
                limit = sayings;
                if (search(0, now.known[a], now.known[b], now.view(a, b), now.view(b, a))) {
                    count = sayings;
                }
            }
        }

        /** At 2 times k the speaker of the k-th saying, and 1: its FACT. */
        int part(int i) {
            if (i < 0 || i / 2 >= count || i / 2 >= MOST_SAYINGS) {
                return NONE;
            }
            return i % 2 == 0 ? speaker[i / 2] : subject[i / 2];
        }

        private boolean search(int depth, int known1, int known2, long view1, long view2) {
            if (depth >= limit || depth >= MOST_SAYINGS) {
                return (known1 & known2 & goal) == goal;
            }
            if (depth + fewestToCome(known1, known2) > limit) {
                return false;
            }
            return searchFrom(depth, true, known1, known2, view1, view2)
                || searchFrom(depth, false, known2, known1, view2, view1);
        }

        /** A FACT that FOLLOWS from none is known only by a saying of its own. */
        private int fewestToCome(int known1, int known2) {
            return Integer.bitCount(onlyTold & ~known1) + Integer.bitCount(onlyTold & ~known2);
        }

        /** All that is SAFE for the one who speaks now, the lesser FACT ahead. */
        private boolean searchFrom(int depth, boolean byFirst, int mine, int yours, long mySight, long yourSight) {
            int choice = mine & Family.inNone(mySight, town.facts);
            for (int f = 0; f < town.facts; f++) {
                if (!has(choice, f)) {
                    continue;
                }
                speaker[depth] = byFirst ? first : second;
                subject[depth] = f;
                int taught = town.closure(yours | 1 << f);
                long mySightThen = town.heard(mySight, f, has(yours, f));
                long yourSightThen = Family.having(yourSight, f);
                boolean found = byFirst
                    ? search(depth + 1, mine, taught, mySightThen, yourSightThen)
                    : search(depth + 1, taught, mine, yourSightThen, mySightThen);
                if (found) {
                    return true;
                }
            }
            return false;
        }
    }

    /** COUNT of HATS. */
    static final class HatCounter {
        private static final int GREATEST_SUM = MOST_FACTS * 99;

        /** At k: whether two SETS that must not wear one HAT have sums that differ by k. */
        private final boolean[] apart = new boolean[GREATEST_SUM + 1];

        int least(Town town, int d) {
            findDifferences(town, d);
            for (int m = 2; m <= MOST_HATS; m++) {
                if (tellsAll(m)) {
                    return m;
                }
            }
            return NONE;
        }

        private void findDifferences(Town town, int d) {
            for (int k = 0; k <= GREATEST_SUM; k++) {
                apart[k] = false;
            }
            for (int s = 0; s < Family.SETS; s++) {
                if (Family.holds(town.closedSets, s)) {
                    findDifferencesTo(town, d, s);
                }
            }
        }

        private void findDifferencesTo(Town town, int d, int s) {
            int sum = town.weightOf(s);
            for (int t = s + 1; t < Family.SETS; t++) {
                if (Family.holds(town.closedSets, t) && Integer.bitCount(s ^ t) <= d) {
                    int difference = Math.abs(sum - town.weightOf(t));
                    if (difference <= GREATEST_SUM) {
                        apart[difference] = true;
                    }
                }
            }
        }

        private boolean tellsAll(int m) {
            for (int k = 0; k <= GREATEST_SUM; k += m) {
                if (apart[k]) {
                    return false;
                }
            }
            return true;
        }
    }
}
