import java.util.ArrayList;
import java.util.List;
import java.util.Random;

/** Long runs of drawn calls, each answered by UntoldFacts and by Model alike. */
public final class ModelTests {
    private static final int RUNS = 3000;
    private static final int PAIRS = 100;
    private static final int CALLS = 505;
    private static final int[] ODD = {-1, -2, 6, 7, 31, 32, 63, 64, 1 << 30, Integer.MAX_VALUE, Integer.MIN_VALUE, -1000000001};
    private static final String[] PIECES = {"hats", "fact", "person", "follows", "knows", ";", ",", " ", "0", "1", "2", "10",
        "99", "100", "0003", "007", "hat", "x", "A", "\u00e9", "factfollows", "\t", "5,5"};

    private final Random random;
    private final UntoldFacts own = new UntoldFacts();
    private final Model model = new Model();
    private final List<String> calls = new ArrayList<>();
    private int facts;
    private int persons;
    private boolean same = true;

    private ModelTests(long seed) {
        random = new Random(seed);
    }

    public static void main(String[] args) {
        int wrong = 0;
        for (int run = 0; run < RUNS && wrong < 5; run++) {
            ModelTests test = new ModelTests(run);
            if (!test.run()) {
                wrong++;
                System.out.println("run " + run + ":");
                List<String> all = test.calls;
                all.subList(Math.max(0, all.size() - 40), all.size()).forEach(System.out::println);
            }
        }
        for (int pair = 0; pair < PAIRS; pair++) {
            if (!together(new ModelTests(RUNS + 2 * pair), new ModelTests(RUNS + 2 * pair + 1))) {
                wrong++;
                System.out.println("pair " + pair + " answers otherwise than the models");
            }
        }
        System.out.println("ModelTests: " + (wrong == 0 ? "all answers are the model's" : wrong + " runs are wrong"));
        if (wrong != 0) System.exit(1);
    }

    private boolean run() {
        begin();
        for (int k = 0; k < CALLS; k++) goOn();
        return same;
    }

    private void begin() {
        if (random.nextInt(20) != 0) tell(goodText());
    }

    private void goOn() {
        if (same && calls.size() < CALLS) step();
    }

    /** Two objects by turns: neither answers by what the other was told. */
    private static boolean together(ModelTests a, ModelTests b) {
        a.begin();
        b.begin();
        for (int k = 0; k < CALLS; k++) {
            a.goOn();
            b.goOn();
        }
        return a.same && b.same;
    }

    private int same(String call, int got, int want) {
        calls.add(call + " answered " + got + (got == want ? "" : ", the model " + want));
        same &= got == want;
        return want;
    }

    private void tell(String text) {
        for (int at = 0; at < text.length();) {
            int n = Math.min(text.length() - at, random.nextInt(20) == 0 ? 1 + random.nextInt(8) : 8);
            long bytes = random.nextBoolean() ? 0 : random.nextLong();
            for (int k = 0; k < n; k++) bytes = bytes << 8 | text.charAt(at + k);
            same("feed(" + n + ", " + bytes + ")", own.feed(n, bytes), model.feed(n, bytes));
            at += n;
        }
        same("town() of '" + text + "'", own.town(), model.town());
        same("fault()", own.fault(), model.fault());
        facts = model.told(0);
        persons = model.told(1);
    }

    private String blanks() {
        return random.nextInt(9) == 0 ? " " : "";
    }

    private String list(int told) {
        StringBuilder b = new StringBuilder();
        List<Integer> left = new ArrayList<>();
        for (int f = 0; f < told; f++) left.add(f);
        int n = 1 + random.nextInt(told);
        for (int k = 0; k < n; k++) {
            b.append(k == 0 ? "" : ",").append(blanks()).append(left.remove(random.nextInt(left.size()))).append(blanks());
        }
        return b.toString();
    }

    private String goodText() {
        StringBuilder b = new StringBuilder();
        int n = random.nextInt(4) == 0 ? random.nextInt(7) : 3 + random.nextInt(4);
        int people = random.nextInt(4) == 0 ? random.nextInt(6) : 2 + random.nextInt(3);
        int hatsAt = random.nextInt(n + people + 3);
        int style = random.nextInt(3);
        for (int k = 0; k < n + people; k++) {
            if (k == hatsAt) b.append("hats").append(blanks()).append(2 + random.nextInt(style == 0 ? 8 : 98)).append(";");
            if (k < n) {
                int weight = style == 1 ? 1 << k : style == 2 ? 1 + random.nextInt(6) : 1 + random.nextInt(99);
                b.append("fact ").append(weight);
                if (k > 0 && random.nextInt(3) == 0) b.append(blanks()).append("follows").append(blanks()).append(list(k));
                b.append(";");
            } else {
                b.append("person");
                if (n > 0 && random.nextInt(4) != 0) b.append(" knows").append(blanks()).append(list(Math.max(1, random.nextInt(4) == 0 ? n : n / 2)));
                b.append(blanks()).append(";");
            }
        }
        return b.length() > 400 ? "" : b.toString();
    }

    private String badText() {
        StringBuilder b = new StringBuilder(goodText());
        for (int k = 1 + random.nextInt(3); k > 0; k--) {
            int at = random.nextInt(b.length() + 1);
            int upto = Math.min(b.length(), at + random.nextInt(5));
            switch (random.nextInt(4)) {
                case 0: b.delete(at, upto); break;
                case 1: b.insert(at, PIECES[random.nextInt(PIECES.length)]); break;
                case 2: b.insert(at, b.substring(at, upto)); break;
                default: b.insert(b.indexOf(";", at) + 1, random.nextBoolean() ? "fact 3;" : "person;");
            }
        }
        return b.length() > 400 ? b.substring(0, 400) : b.toString();
    }

    private int number(int below) {
        return random.nextInt(40) == 0 ? ODD[random.nextInt(ODD.length)] : below < 1 ? random.nextInt(3) : random.nextInt(below);
    }

    private int p() {
        return number(random.nextInt(30) == 0 ? persons + 1 : persons);
    }

    private int other(int p) {
        return random.nextInt(30) == 0 || persons < 2 || p < 0 || p >= persons ? p() : (p + 1 + random.nextInt(persons - 1)) % persons;
    }

    private int f() {
        return number(random.nextInt(30) == 0 ? facts + 1 : facts);
    }

    private int known(int a) {
        for (int k = 0; k < 8; k++) {
            int f = f();
            if (model.fact(f, 2) >= 0 && (model.fact(f, 2) & 1 << a) != 0) return f;
        }
        return f();
    }

    private int i() {
        return random.nextInt(3) == 0 ? -1 : number(8);
    }

    private int listeners(int a, int b) {
        int set = number(1 << persons);
        return random.nextInt(20) == 0 || a < 0 || b < 0 || a > 9 || b > 9 ? set : set & ~(1 << a | 1 << b);
    }

    private void step() {
        int a = p(), b = other(a), c = other(b), f = f(), i = i();
        switch (random.nextInt(36)) {
            case 0: tell(random.nextInt(4) == 0 ? badText() : goodText()); break;
            case 1: { int w = number(7); same("told(" + w + ")", own.told(w), model.told(w)); break; }
            case 2: { int w = number(3); same("fact(" + f + ", " + w + ")", own.fact(f, w), model.fact(f, w)); break; }
            case 3: { int w = number(4); same("person(" + a + ", " + w + ")", own.person(a, w), model.person(a, w)); break; }
            case 4: { int s = number(1 << facts); same("closed(" + s + ")", own.closed(s), model.closed(s)); break; }
            case 5: case 6: same("canKnow(" + a + ", " + b + ", " + i + ")", own.canKnow(a, b, i), model.canKnow(a, b, i)); break;
            case 7: { int w = number(2); same("sure(" + a + ", " + b + ", " + w + ")", own.sure(a, b, w), model.sure(a, b, w)); break; }
            case 8: same("safe(" + a + ", " + b + ")", own.safe(a, b), model.safe(a, b)); break;
            case 9: same("odds(" + a + ", " + b + ", " + f + ")", own.odds(a, b, f), model.odds(a, b, f)); break;
            case 10: same("best(" + a + ", " + b + ")", own.best(a, b), model.best(a, b)); break;
            case 11: case 12: case 13: saying(a, b); break;
            case 14: case 15: wholePlan(a, b); break;
            case 16: case 17: same("silent(" + a + ", " + b + ")", own.silent(a, b), model.silent(a, b)); break;
            case 18: if (random.nextInt(4) == 0) same("morning()", own.morning(), model.morning()); break;
            case 19: if (random.nextInt(4) == 0) { int s = number(1 << facts); same("party(" + s + ")", own.party(s), model.party(s)); } break;
            case 20: case 21: same("plan(" + a + ", " + b + ", " + i + ")", own.plan(a, b, i), model.plan(a, b, i)); break;
            case 22: if (random.nextInt(20) == 0) { int d = number(8); same("hats(" + d + ")", own.hats(d), model.hats(d)); } break;
            case 23: same("common(" + c + ", " + a + ", " + b + ")", own.common(c, a, b), model.common(c, a, b)); break;
            case 24: case 25: same("knew(" + a + ", " + i + ")", own.knew(a, i), model.knew(a, i)); break;
            case 26: same("bore()", own.bore(), model.bore()); break;
            case 27: { int w = number(5), n = number(70); same("log(" + n + ", " + w + ")", own.log(n, w), model.log(n, w)); break; }
            case 28: case 29: writing(a, b); break;
            case 30: if (random.nextInt(3) == 0) same("tear()", own.tear(), model.tear()); break;
            case 31: same("judge()", own.judge(), model.judge()); break;
            case 32: if (random.nextInt(3) == 0) drifting(); break;
            case 33: { int v = random.nextInt(4) == 0 ? number(9) : random.nextInt() & Integer.MAX_VALUE; same("seed(" + v + ")", own.seed(v), model.seed(v)); break; }
            case 34: { int k = number(3); same("keep(" + k + ")", own.keep(k), model.keep(k)); break; }
            default: { int k = number(3); same("goBack(" + k + ")", own.goBack(k), model.goBack(k)); }
        }
    }

    private void saying(int a, int b) {
        int safe = model.safe(a, b);
        int f = safe > 0 && random.nextBoolean() ? Integer.numberOfTrailingZeros(safe) : known(a);
        int l = listeners(a, b);
        same("say(" + a + ", " + b + ", " + f + ", " + l + ")", own.say(a, b, f, l), model.say(a, b, f, l));
    }

    private void writing(int a, int b) {
        int unknown = model.person(a, 0) & ~model.person(b, 0);
        int f = random.nextInt(6) == 0 ? f() : unknown > 0 ? Integer.numberOfTrailingZeros(unknown) : known(a);
        same("write(" + a + ", " + b + ", " + f + ")", own.write(a, b, f), model.write(a, b, f));
    }

    /** All of a plan, and often its first sayings. */
    private void wholePlan(int a, int b) {
        int n = same("plan(" + a + ", " + b + ", -1)", own.plan(a, b, -1), model.plan(a, b, -1));
        for (int i = 0; i < 2 * n; i++) same("plan(" + a + ", " + b + ", " + i + ")", own.plan(a, b, i), model.plan(a, b, i));
        if (n > 0 && random.nextBoolean()) {
            int from = model.plan(a, b, 0), to = a + b - from, f = model.plan(a, b, 1);
            same("say(" + from + ", " + to + ", " + f + ", 0)", own.say(from, to, f, 0), model.say(from, to, f, 0));
        }
    }

    private void drifting() {
        int n = 1 + number(random.nextInt(9) == 0 ? 100 : 5);
        int q = random.nextBoolean() ? number(1000001) : random.nextInt(5) * 250000;
        same("drift(" + n + ", " + q + ")", own.drift(n, q), model.drift(n, q));
    }
}
