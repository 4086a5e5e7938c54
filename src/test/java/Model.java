import java.util.ArrayDeque;
import java.util.ArrayList;
import java.util.Arrays;
import java.util.HashSet;
import java.util.List;
import java.util.Set;
import java.util.TreeMap;
import java.util.TreeSet;

/**
 * The document once more, in its plainest form and with the Java library:
 * sets of sets, copies of everything, nothing clever. ModelTests holds the
 * class against it.
 */
final class Model {
    static final int NONE = -1, UNKNOWN = -1000000001, OUTSIDE = -1000000002, NOT = -1000000003, FULL = -1000000004;

    /** A saying of THE LOG or THE BOOK. */
    record Saying(int a, int b, int f, int listeners, int insult) { }

    /** A word, a NUMBER or another byte of THE TEXT. */
    record Token(int at, char kind, String text) { }

    /** What an IMAGE keeps. */
    static final class State {
        int[] known = {}, hat = {}, insults = {};
        TreeMap<String, TreeSet<Integer>> can = new TreeMap<>();
        List<Saying> log = new ArrayList<>();
        long seed;

        State copy() {
            State s = new State();
            s.known = known.clone();
            s.hat = hat.clone();
            s.insults = insults.clone();
            can.forEach((k, v) -> s.can.put(k, new TreeSet<>(v)));
            s.log = new ArrayList<>(log);
            s.seed = seed;
            return s;
        }

        TreeSet<Integer> view(int p, int q) {
            return can.get(p + ">" + q);
        }
    }

    private final StringBuilder text = new StringBuilder();
    private int faultAt = NONE;
    private int m = 10;
    private List<Integer> weights = new ArrayList<>();
    private List<TreeSet<Integer>> follows = new ArrayList<>();
    private int persons;
    private State s = new State();
    private final State[] images = new State[2];
    private final List<Saying> book = new ArrayList<>();

    // ---- the town

    int feed(int n, long bytes) {
        if (n < 1 || n > 8) return OUTSIDE;
        if (text.length() + n > 400) return FULL;
        for (int k = n - 1; k >= 0; k--) text.append((char) (bytes >> 8 * k & 255));
        return text.length();
    }

    private static List<Token> tokens(String t) {
        List<Token> list = new ArrayList<>();
        int i = 0;
        while (i < t.length()) {
            char c = t.charAt(i);
            if (c == ' ') { i++; continue; }
            int j = i;
            char kind = '?';
            if (c >= 'a' && c <= 'z') {
                kind = 'w';
                while (j < t.length() && t.charAt(j) >= 'a' && t.charAt(j) <= 'z') j++;
            } else if (c >= '0' && c <= '9') {
                kind = 'n';
                while (j < t.length() && t.charAt(j) >= '0' && t.charAt(j) <= '9') j++;
            } else {
                j++;
            }
            list.add(new Token(i, kind, t.substring(i, j)));
            i = j;
        }
        list.add(new Token(t.length(), 'e', ""));
        return list;
    }

    /** A machine of states; answers {fault, byte} or null. */
    private int[] parse(String t, List<Integer> w, List<TreeSet<Integer>> fol, List<TreeSet<Integer>> know, int[] hats) {
        String state = "clause";
        int newWeight = 0;
        TreeSet<Integer> list = new TreeSet<>();
        hats[0] = 0;
        for (Token k : tokens(t)) {
            int number = k.kind == 'n' && k.text.length() <= 3 ? Integer.parseInt(k.text) : -1;
            int fault = 0;
            switch (state) {
                case "clause":
                    list = new TreeSet<>();
                    if (k.kind == 'e') break;
                    if (k.text.equals("hats")) { fault = hats[0] != 0 ? 3 : 0; state = "hats"; }
                    else if (k.text.equals("fact")) { fault = !know.isEmpty() ? 1 : w.size() == 6 ? 3 : 0; state = "fact"; }
                    else if (k.text.equals("person")) { fault = know.size() == 5 ? 3 : 0; state = "person"; }
                    else fault = 1;
                    break;
                case "hats":
                    fault = k.kind != 'n' ? 1 : number < 2 || number > 99 ? 2 : 0;
                    hats[0] = number;
                    state = "hats end";
                    break;
                case "hats end":
                    fault = k.text.equals(";") ? 0 : 1;
                    state = "clause";
                    break;
                case "fact":
                    fault = k.kind != 'n' ? 1 : number < 1 || number > 99 ? 2 : 0;
                    newWeight = number;
                    state = "fact more";
                    break;
                case "fact more":
                    if (k.text.equals("follows")) state = "fact list";
                    else if (k.text.equals(";")) { w.add(newWeight); fol.add(list); state = "clause"; }
                    else fault = 1;
                    break;
                case "person":
                    if (k.text.equals("knows")) state = "person list";
                    else if (k.text.equals(";")) { know.add(list); state = "clause"; }
                    else fault = 1;
                    break;
                case "fact list":
                case "person list":
                    if (k.kind != 'n') fault = 1;
                    else if (number < 0 || number >= w.size()) fault = 2;
                    else if (!list.add(number)) fault = 4;
                    state = state + " next";
                    break;
                default:
                    if (k.text.equals(",")) state = state.replace(" next", "");
                    else if (k.text.equals(";")) {
                        if (state.startsWith("fact")) { w.add(newWeight); fol.add(list); } else know.add(list);
                        state = "clause";
                    } else fault = 1;
            }
            if (fault != 0) return new int[] {fault, k.at};
        }
        return null;
    }

    int town() {
        List<Integer> w = new ArrayList<>();
        List<TreeSet<Integer>> fol = new ArrayList<>(), know = new ArrayList<>();
        int[] hats = new int[1];
        int[] fault = parse(text.toString(), w, fol, know, hats);
        text.setLength(0);
        faultAt = fault == null ? NONE : fault[1];
        if (fault != null) return -10 - fault[0];
        weights = w;
        follows = fol;
        m = hats[0] == 0 ? 10 : hats[0];
        persons = know.size();
        long seed = s.seed;
        s = new State();
        s.seed = seed;
        s.known = new int[persons];
        s.hat = new int[persons];
        s.insults = new int[persons];
        for (int p = 0; p < persons; p++) {
            for (int f : know.get(p)) s.known[p] |= 1 << f;
            s.known[p] = close(s.known[p]);
            s.hat[p] = hat(s.known[p], m);
        }
        for (int p = 0; p < persons; p++)
            for (int q = 0; q < persons; q++)
                if (p != q) s.can.put(p + ">" + q, withHat(s.hat[q]));
        book.clear();
        Arrays.fill(images, null);
        return persons;
    }

    int fault() { return faultAt; }

    private int facts() { return weights.size(); }
    private boolean has(int set, int k) { return (set & 1 << k) != 0; }

    private int close(int set) {
        for (boolean again = true; again;) {
            again = false;
            for (int f = 0; f < facts(); f++) {
                if (has(set, f) || follows.get(f).isEmpty()) continue;
                boolean all = true;
                for (int g : follows.get(f)) all &= has(set, g);
                if (all) { set |= 1 << f; again = true; }
            }
        }
        return set;
    }

    private int hat(int set, int by) {
        int sum = 0;
        for (int f = 0; f < facts(); f++) if (has(set, f)) sum += weights.get(f);
        return sum % by;
    }

    private TreeSet<Integer> closedSets() {
        TreeSet<Integer> all = new TreeSet<>();
        for (int set = 0; set < 1 << facts(); set++) if (close(set) == set) all.add(set);
        return all;
    }

    private TreeSet<Integer> withHat(int h) {
        TreeSet<Integer> all = closedSets();
        all.removeIf(set -> hat(set, m) != h);
        return all;
    }

    int told(int what) {
        int[] all = {facts(), persons, m, text.length(), s.log.size(), book.size(), closedSets().size()};
        return what < 0 || what >= all.length ? OUTSIDE : all[what];
    }

    private boolean noFact(int f) { return f < 0 || f >= facts(); }
    private boolean noPerson(int p) { return p < 0 || p >= persons; }
    private boolean noTwo(int a, int b) { return noPerson(a) || noPerson(b) || a == b; }
    private boolean noSet(int set, int of) { return set < 0 || set >= 1 << of; }

    int fact(int f, int what) {
        if (noFact(f)) return UNKNOWN;
        if (what < 0 || what > 2) return OUTSIDE;
        if (what == 0) return weights.get(f);
        int set = 0;
        if (what == 1) for (int g : follows.get(f)) set |= 1 << g;
        else for (int p = 0; p < persons; p++) if (has(s.known[p], f)) set |= 1 << p;
        return set;
    }

    int person(int p, int what) {
        if (noPerson(p)) return UNKNOWN;
        if (what < 0 || what > 3) return OUTSIDE;
        return new int[] {s.known[p], s.hat[p], s.insults[p], plainLack(p)}[what];
    }

    private int plainLack(int p) { return inNone(withHat(s.hat[p])); }

    private int inNone(Set<Integer> sets) {
        int lack = 0;
        for (int f = 0; f < facts(); f++) {
            boolean none = !sets.isEmpty();
            for (int set : sets) none &= !has(set, f);
            if (none) lack |= 1 << f;
        }
        return lack;
    }

    private int inAll(Set<Integer> sets) {
        int all = sets.isEmpty() ? 0 : (1 << facts()) - 1;
        for (int set : sets) all &= set;
        return all;
    }

    int closed(int set) { return noSet(set, facts()) ? UNKNOWN : close(set); }

    // ---- what others can know

    private int countOr(Set<Integer> sets, int i) {
        if (i == NONE) return sets.size();
        return i < 0 || i >= sets.size() ? NONE : new ArrayList<>(sets).get(i);
    }

    int canKnow(int p, int q, int i) { return noTwo(p, q) ? UNKNOWN : countOr(s.view(p, q), i); }

    int sure(int p, int q, int what) {
        if (noTwo(p, q)) return UNKNOWN;
        if (what != 0 && what != 1) return OUTSIDE;
        return what == 0 ? inAll(s.view(p, q)) : inNone(s.view(p, q));
    }

    private int safeIn(State x, int a, int b) { return x.known[a] & inNone(x.view(a, b)); }

    int safe(int a, int b) { return noTwo(a, b) ? UNKNOWN : safeIn(s, a, b); }

    int odds(int a, int b, int f) {
        if (noTwo(a, b) || noFact(f)) return UNKNOWN;
        long lack = 0, all = s.view(a, b).size();
        for (int set : s.view(a, b)) if (!has(set, f)) lack++;
        return all == 0 ? 0 : (int) (1000000 * lack / all);
    }

    int best(int a, int b) {
        if (noTwo(a, b)) return UNKNOWN;
        int found = NONE;
        for (int f = facts() - 1; f >= 0; f--)
            if (has(s.known[a], f) && (found == NONE || odds(a, b, f) >= odds(a, b, found))) found = f;
        return found;
    }

    // ---- talks

    private int sayIn(State x, int a, int b, int f, int listeners) {
        boolean insult = has(x.known[b], f);
        for (int p = 0; p < persons; p++) {
            if (p != a && p != b && !has(listeners, p)) continue;
            for (int q = 0; q < persons; q++) {
                if (q == p || q != a && q != b && !has(listeners, q)) continue;
                TreeSet<Integer> then = new TreeSet<>();
                for (int set : x.view(p, q)) {
                    if (q == a && !has(set, f)) continue;
                    if (q == b && has(set, f) != insult) continue;
                    then.add(q == a ? set : close(set | 1 << f));
                }
                x.can.put(p + ">" + q, then);
            }
        }
        for (int p = 0; p < persons; p++) if (p == b || has(listeners, p)) x.known[p] = close(x.known[p] | 1 << f);
        if (insult) x.insults[a]++;
        if (x.log.size() < 60) x.log.add(new Saying(a, b, f, listeners, insult ? 1 : 0));
        return insult ? 1 : 0;
    }

    int say(int a, int b, int f, int listeners) {
        if (noTwo(a, b) || noFact(f) || noSet(listeners, persons) || has(listeners, a) || has(listeners, b)) return UNKNOWN;
        return has(s.known[a], f) ? sayIn(s, a, b, f, listeners) : NOT;
    }

    int silent(int a, int b) {
        if (noTwo(a, b)) return UNKNOWN;
        int waited = plainLack(b) & ~s.known[b];
        int before = s.view(b, a).size();
        s.view(b, a).removeIf(set -> (set & waited) != 0);
        return before - s.view(b, a).size();
    }

    int morning() {
        int changed = 0;
        for (int p = 0; p < persons; p++) {
            int h = hat(s.known[p], m);
            if (h != s.hat[p]) changed |= 1 << p;
            s.hat[p] = h;
        }
        for (int p = 0; p < persons; p++)
            for (int q = 0; q < persons; q++) {
                if (p == q) continue;
                int sure = inAll(s.view(p, q));
                TreeSet<Integer> sets = withHat(s.hat[q]);
                sets.removeIf(set -> (set & sure) != sure);
                s.can.put(p + ">" + q, sets);
            }
        s.log.clear();
        return changed;
    }

    int party(int set) {
        if (noSet(set, facts())) return UNKNOWN;
        for (int n = 0;; n++) {
            int[] next = null;
            for (int a = persons - 1; a >= 0; a--)
                for (int b = persons - 1; b >= 0; b--)
                    for (int f = facts() - 1; f >= 0; f--)
                        if (a != b && has(set & safeIn(s, a, b), f)) next = new int[] {a, b, f};
            if (next == null) return n;
            sayIn(s, next[0], next[1], next[2], (1 << persons) - 1 - (1 << next[0]) - (1 << next[1]));
        }
    }

    // ---- plans

    private record Try(State state, List<Integer> said) { }

    private List<Integer> planOf(int a, int b) {
        int goal = s.known[a] | s.known[b];
        ArrayDeque<Try> queue = new ArrayDeque<>();
        queue.add(new Try(s.copy(), new ArrayList<>()));
        while (!queue.isEmpty()) {
            Try t = queue.poll();
            if ((t.state.known[a] & goal) == goal && (t.state.known[b] & goal) == goal) return t.said;
            if (t.said.size() == 12) continue;
            for (int from : new int[] {a, b}) {
                int to = a + b - from;
                for (int f = 0; f < facts(); f++) {
                    if (!has(safeIn(t.state, from, to), f)) continue;
                    State then = t.state.copy();
                    sayIn(then, from, to, f, 0);
                    List<Integer> said = new ArrayList<>(t.said);
                    said.add(from);
                    said.add(f);
                    queue.add(new Try(then, said));
                }
            }
        }
        return null;
    }

    int plan(int a, int b, int i) {
        if (noTwo(a, b)) return UNKNOWN;
        List<Integer> said = planOf(a, b);
        if (said == null) return NONE;
        if (i == NONE) return said.size() / 2;
        return i < 0 || i >= said.size() ? NONE : said.get(i);
    }

    int hats(int d) {
        if (d < 1 || d > 6) return OUTSIDE;
        TreeSet<Integer> sets = closedSets();
        next:
        for (int by = 2; by <= 99; by++) {
            for (int x : sets)
                for (int y : sets)
                    if (x != y && Integer.bitCount(x ^ y) <= d && hat(x, by) == hat(y, by)) continue next;
            return by;
        }
        return NONE;
    }

    int common(int c, int a, int b) {
        Set<Integer> unlike = new HashSet<>(List.of(c));
        if (!unlike.add(a) || !unlike.add(b) || noPerson(a) || noPerson(b) || noPerson(c)) return UNKNOWN;
        return sure(c, a, 0) & sure(c, b, 0);
    }

    int knew(int q, int i) {
        if (noPerson(q)) return UNKNOWN;
        TreeSet<Integer> sets = withHat(s.hat[q]);
        sets.removeIf(set -> !fits(q, set));
        return countOr(sets, i);
    }

    private boolean fits(int q, int set) {
        for (Saying x : s.log) {
            if (x.a == q && !has(set, x.f)) return false;
            if (x.b == q && x.insult == 0 && has(set, x.f)) return false;
            if (x.b == q && x.insult == 1 && !has(set, x.f)) return false;
            if (x.b == q || has(x.listeners, q)) set = close(set | 1 << x.f);
        }
        return true;
    }

    int bore() {
        int found = NONE, least = Integer.MAX_VALUE;
        for (int p = 0; p < persons; p++) {
            int sum = 0;
            for (int q = 0; q < persons; q++)
                if (p != q) sum += Integer.bitCount(sure(p, q, 0) | sure(p, q, 1));
            if (sum < least) { least = sum; found = p; }
        }
        return found;
    }

    // ---- logs, books

    int log(int i, int what) {
        if (what < 0 || what > 4) return OUTSIDE;
        if (i < 0 || i >= s.log.size()) return NONE;
        Saying x = s.log.get(i);
        return new int[] {x.a, x.b, x.f, x.listeners, x.insult}[what];
    }

    int write(int a, int b, int f) {
        if (noTwo(a, b) || noFact(f)) return UNKNOWN;
        if (book.size() == 30) return FULL;
        book.add(new Saying(a, b, f, 0, 0));
        return book.size();
    }

    int tear() {
        int n = book.size();
        book.clear();
        return n;
    }

    int judge() {
        State x = s.copy();
        for (int k = 0; k < book.size(); k++) {
            Saying y = book.get(k);
            if (!has(x.known[y.a], y.f) || has(x.known[y.b], y.f)) return k;
            x.known[y.b] = close(x.known[y.b] | 1 << y.f);
        }
        return NONE;
    }

    // ---- draws, images

    private int draw(int n) {
        s.seed = (s.seed * 1103515245L + 12345L) % (1L << 31);
        return (int) (s.seed / 65536 % n);
    }

    int drift(int n, int q) {
        if (n < 1 || n > 99 || q < 0 || q > 1000000) return OUTSIDE;
        if (persons < 2) return NOT;
        int insults = 0;
        for (int k = 0; k < n; k++) {
            int a = draw(persons);
            List<Integer> others = new ArrayList<>();
            for (int p = 0; p < persons; p++) if (p != a) others.add(p);
            int b = others.get(draw(persons - 1));
            int f = best(a, b);
            if (f == NONE || odds(a, b, f) < q) silent(a, b);
            else insults += sayIn(s, a, b, f, 0);
        }
        return insults;
    }

    int seed(int v) {
        if (v < 0) return OUTSIDE;
        int was = (int) s.seed;
        s.seed = v;
        return was;
    }

    int keep(int i) {
        if (i != 0 && i != 1) return UNKNOWN;
        images[i] = s.copy();
        return 1;
    }

    int goBack(int i) {
        if (i != 0 && i != 1) return UNKNOWN;
        if (images[i] == null) return NOT;
        s = images[i].copy();
        return 1;
    }
}
