import java.util.ArrayDeque;
import java.util.ArrayList;
import java.util.Arrays;
import java.util.Deque;
import java.util.HashMap;
import java.util.List;
import java.util.Map;

/** The document once more, in the plainest form and by other means, to compare answers with. */
final class Model {
    private static final class Fault extends RuntimeException {
        private static final long serialVersionUID = 1L;
        final int what;
        final int where;

        Fault(int what, int where) {
            super(null, null, false, false);
            this.what = what;
            this.where = where;
        }
    }

    private static final class ByZero extends RuntimeException {
        private static final long serialVersionUID = 1L;

        ByZero() {
            super(null, null, false, false);
        }
    }

    private interface Sum {
        int of(Map<String, Integer> seen);
    }

    private record Branch(Sum less, Sum than, Sum then) { }

    private record Law(List<Branch> branches, Sum last) {
        int of(Map<String, Integer> seen) {
            try {
                for (Branch b : branches) {
                    if (b.less.of(seen) < b.than.of(seen)) return b.then.of(seen);
                }
                return last.of(seen);
            } catch (ByZero e) {
                return 0;
            }
        }
    }

    private record Token(String text, int where) {
        boolean isName() {
            return text.matches("[a-z]{1,8}") && !WORDS.contains(text);
        }

        boolean isInt() {
            return text.matches("[0-9]{1,4}");
        }

        boolean isToken() {
            return isName() || isInt() || WORDS.contains(text) || text.matches("[;=+*/<()-]");
        }
    }

    private static final List<String> WORDS = Arrays.asList("house", "street", "turns", "pays", "earns", "shared", "alike",
        "most", "round", "seed", "if", "then", "else", "left", "right", "own", "gap", "day", "lot", "pot");
    private static final List<String> VARS = Arrays.asList("left", "right", "own", "gap", "day", "lot", "pot");
    private static final List<String> HOWS = Arrays.asList("alike", "most", "round");

    private static final class Rules {
        List<Integer> purses = new ArrayList<>();
        boolean street;
        boolean turns;
        int how;
        int every = 7;
        int seed;
        Law pays = new Law(List.of(), seen -> seen.get("gap"));
        Law earns = new Law(List.of(), seen -> 0);
    }

    private static final class House {
        int purse;
        int hidden;
        int paid;
        long since;

        House(int purse) {
            this.purse = purse;
        }

        House copy() {
            House h = new House(purse);
            h.hidden = hidden;
            h.paid = paid;
            h.since = since;
            return h;
        }

        int shown() {
            return purse - hidden;
        }
    }

    private static final class State {
        List<House> houses = new ArrayList<>();
        int pot;
        int evening;
        int shares;

        State copy() {
            State s = new State();
            for (House h : houses) s.houses.add(h.copy());
            s.pot = pot;
            s.evening = evening;
            s.shares = shares;
            return s;
        }

        List<Integer> key() {
            List<Integer> key = new ArrayList<>();
            for (House h : houses) {
                key.add(h.purse);
                key.add(h.hidden);
            }
            key.add(pot);
            return key;
        }

        int apart() {
            int max = houses.stream().mapToInt(h -> h.purse).max().orElse(0);
            return max - houses.stream().mapToInt(h -> h.purse).min().orElse(0);
        }

        int n() {
            return houses.size();
        }

        boolean has(int i) {
            return i >= 0 && i < n();
        }

        House at(int i) {
            return houses.get(i);
        }
    }

    private String tape = "";
    private int place = -1;
    private Rules rules = new Rules();
    private State now = new State();
    private final Deque<State> past = new ArrayDeque<>();
    private final State[] slots = new State[3];
    private final List<int[]> told = new ArrayList<>();

    // ---- the text

    private List<Token> tokens;
    private int at;

    private static List<Token> tokensOf(String text) {
        List<Token> found = new ArrayList<>();
        int i = 0;
        while (i < text.length()) {
            char c = text.charAt(i);
            int from = i++;
            if (c == 9 || c == 10 || c == 13 || c == 32) continue;
            String class1 = "abcdefghijklmnopqrstuvwxyz";
            String class2 = "0123456789";
            String mine = class1.indexOf(c) >= 0 ? class1 : class2.indexOf(c) >= 0 ? class2 : "";
            while (i < text.length() && mine.indexOf(text.charAt(i)) >= 0) i++;
            found.add(new Token(text.substring(from, i), from));
        }
        found.add(new Token("", text.length()));
        return found;
    }

    private Token peek() {
        return tokens.get(at);
    }

    private boolean next(String text) {
        return peek().text.equals(text);
    }

    private Token take(boolean fits) {
        Token t = peek();
        if (!fits || !t.isToken()) throw new Fault(1, t.where);
        if (at == 400) throw new Fault(2, t.where);
        at++;
        return t;
    }

    private Token take(String text) {
        return take(next(text));
    }

    private Rules parse(String text) {
        tokens = tokensOf(text);
        at = 0;
        Rules r = new Rules();
        List<String> names = new ArrayList<>();
        Fault later = null;
        while (!next("")) {
            Token first = peek();
            switch (first.text) {
                case "house": {
                    if (names.size() == 10) throw new Fault(2, first.where);
                    take("house");
                    Token name = take(peek().isName());
                    Token purse = take(peek().isInt());
                    take(";");
                    if (names.contains(name.text) && later == null) later = new Fault(3, name.where);
                    names.add(name.text);
                    r.purses.add(Integer.parseInt(purse.text));
                    break;
                }
                case "street":
                    take("street");
                    take(";");
                    r.street = true;
                    break;
                case "turns":
                    take("turns");
                    take(";");
                    r.turns = true;
                    break;
                case "pays":
                    r.pays = law("pays");
                    break;
                case "earns":
                    r.earns = law("earns");
                    break;
                case "shared": {
                    take("shared");
                    Token how = take(HOWS.contains(peek().text));
                    Token every = take(peek().isInt());
                    take(";");
                    r.how = HOWS.indexOf(how.text);
                    r.every = Integer.parseInt(every.text);
                    if ((r.every < 1 || r.every > 30) && later == null) later = new Fault(5, every.where);
                    break;
                }
                case "seed":
                    take("seed");
                    r.seed = Integer.parseInt(take(peek().isInt()).text);
                    take(";");
                    break;
                default:
                    throw new Fault(1, first.where);
            }
        }
        if (later != null) throw later;
        return r;
    }

    private Law law(String word) {
        take(word);
        take("=");
        List<Branch> branches = new ArrayList<>();
        while (next("if")) {
            if (branches.size() == 4) throw new Fault(2, peek().where);
            take("if");
            Sum less = sum(0);
            take("<");
            Sum than = sum(0);
            take("then");
            Sum then = sum(0);
            take("else");
            branches.add(new Branch(less, than, then));
        }
        Sum last = sum(0);
        take(";");
        return new Law(branches, last);
    }

    private Sum sum(int depth) {
        Sum left = part(depth);
        while (next("+") || next("-")) {
            boolean plus = take(true).text.equals("+");
            Sum a = left;
            Sum b = part(depth);
            left = plus ? seen -> a.of(seen) + b.of(seen) : seen -> a.of(seen) - b.of(seen);
        }
        return left;
    }

    private Sum part(int depth) {
        Sum left = unit(depth);
        while (next("*") || next("/")) {
            boolean times = take(true).text.equals("*");
            Sum a = left;
            Sum b = unit(depth);
            left = times ? seen -> a.of(seen) * b.of(seen) : seen -> divided(a.of(seen), b.of(seen));
        }
        return left;
    }

    private static int divided(int a, int b) {
        if (b == 0) throw new ByZero();
        return (int) ((long) a / b);
    }

    private Sum unit(int depth) {
        if (next("(")) {
            if (depth == 6) throw new Fault(2, peek().where);
            take("(");
            Sum inner = sum(depth + 1);
            take(")");
            return inner;
        }
        Token t = take(peek().isInt() || VARS.contains(peek().text));
        if (t.isInt()) {
            int number = Integer.parseInt(t.text);
            return seen -> number;
        }
        return seen -> seen.get(t.text);
    }

    int feed(int a, int b, int c, int d, int e) {
        if (tape.length() + 20 > 2000) return -1;
        StringBuilder s = new StringBuilder(tape);
        for (int w : new int[] {a, b, c, d, e}) {
            for (int k = 3; k >= 0; k--) s.append((char) ((w >> (8 * k)) & 255));
        }
        tape = s.toString();
        return tape.length();
    }

    int back(int n) {
        if (n < 0 || n > tape.length()) return -1;
        tape = tape.substring(0, tape.length() - n);
        return tape.length();
    }

    int read() {
        String text = tape;
        tape = "";
        place = -1;
        try {
            rules = parse(text);
        } catch (Fault f) {
            place = f.where;
            return f.what;
        }
        now = new State();
        for (int p : rules.purses) now.houses.add(new House(p));
        past.clear();
        told.clear();
        Arrays.fill(slots, null);
        return 0;
    }

    int place() {
        return place;
    }

    // ---- an evening

    private Map<String, Integer> seen(State s, int i) {
        int n = s.n();
        int left = i - 1;
        int right = i + 1;
        if (left < 0) left = rules.street ? i : n - 1;
        if (right >= n) right = rules.street ? i : 0;
        Map<String, Integer> m = new HashMap<>();
        m.put("left", s.at(left).shown());
        m.put("right", s.at(right).shown());
        m.put("own", s.at(i).shown());
        m.put("gap", Math.abs(m.get("left") - m.get("right")));
        m.put("day", s.evening);
        m.put("pot", s.pot);
        m.put("lot", lot(rules.seed, 20 * s.evening + i, 100));
        return m;
    }

    static int lot(int seed, int which, int n) {
        int h = seed;
        for (int it : new int[] {25, which}) {
            h = (h ^ it) * 1103515245 + 12345;
            h = h ^ (h >>> 15);
        }
        return (h >>> 1) % n;
    }

    private int wanted(State s, int i) {
        int w = rules.pays.of(seen(s, i));
        return w < 0 ? 0 : Math.min(w, s.at(i).shown());
    }

    private static void pay(State s, int i, int x) {
        s.at(i).purse -= x;
        s.at(i).paid = x;
        s.at(i).since += x;
        s.pot += x;
    }

    private void payAll(State s) {
        if (rules.turns) {
            for (int i = 0; i < s.n(); i++) pay(s, i, wanted(s, i));
            return;
        }
        State ahead = s.copy();
        for (int i = 0; i < s.n(); i++) pay(s, i, wanted(ahead, i));
    }

    private void evening(State s, int how) {
        for (int i = 0; i < s.n(); i++) {
            int e = rules.earns.of(seen(s, i));
            s.at(i).purse += e < 0 ? 0 : Math.min(e, 999);
        }
        payAll(s);
        s.evening++;
        if (s.evening % rules.every != 0 || s.n() == 0) return;
        if (how == 0) {
            int each = s.pot / s.n();
            for (House h : s.houses) h.purse += each;
            s.pot -= each * s.n();
        } else {
            int whom = s.shares % s.n();
            if (how == 1) {
                whom = 0;
                for (int i = 0; i < s.n(); i++) if (s.at(i).since > s.at(whom).since) whom = i;
            }
            s.at(whom).purse += s.pot;
            s.pot = 0;
        }
        s.shares++;
        for (House h : s.houses) h.since = 0;
    }

    private State after(State from, int n, int how) {
        State s = from.copy();
        for (int i = 0; i < n; i++) evening(s, how);
        return s;
    }

    private State after(State from, int n) {
        return after(from, n, rules.how);
    }

    // ---- what is done

    private void mark() {
        past.push(now.copy());
        if (past.size() > 30) past.removeLast();
    }

    int house(int i, int what) {
        if (!now.has(i)) return -1;
        House h = now.at(i);
        switch (what) {
            case 0: return h.purse;
            case 1: return h.hidden;
            case 2: return h.shown();
            case 3: return seen(now, i).get("gap");
            case 4: return wanted(now, i);
            case 5: return h.paid;
            case 6: return (int) h.since;
            default: return -1;
        }
    }

    int run(int n) {
        if (n < 0 || n > 300) return -1;
        if (n > 0) mark();
        now = after(now, n);
        return now.evening;
    }

    boolean give(int a, int b, int x) {
        if (!now.has(a) || !now.has(b) || a == b || x < 0 || x > now.at(a).shown()) return false;
        mark();
        now.at(a).purse -= x;
        now.at(b).purse += x;
        return true;
    }

    boolean hide(int i, int x) {
        if (!now.has(i) || x < 0 || x > now.at(i).purse) return false;
        mark();
        now.at(i).hidden = x;
        return true;
    }

    int grab(int i) {
        if (!now.has(i)) return -1;
        mark();
        int all = now.pot;
        now.at(i).purse += all;
        now.pot = 0;
        return all;
    }

    int build(int i, int purse) {
        if (now.n() == 10 || i < 0 || i > now.n() || purse < 0 || purse > 9999) return -1;
        mark();
        now.houses.add(i, new House(purse));
        return now.n();
    }

    int burn(int i) {
        if (!now.has(i)) return -1;
        mark();
        return now.houses.remove(i).purse;
    }

    int join(int i) {
        if (!now.has(i) || now.n() < 2 || (rules.street && i == now.n() - 1)) return -1;
        mark();
        int j = (i + 1) % now.n();
        House kept = now.at(Math.min(i, j));
        House gone = now.houses.remove(Math.max(i, j));
        kept.purse += gone.purse;
        kept.hidden += gone.hidden;
        kept.paid += gone.paid;
        kept.since += gone.since;
        return kept.purse;
    }

    boolean undo() {
        if (past.isEmpty()) return false;
        now = past.pop();
        return true;
    }

    // ---- what would be

    int becomes(int what) {
        if (what != 0 && what != 1) return -1;
        List<List<Integer>> keys = new ArrayList<>();
        State s = now.copy();
        for (int i = 0; i <= 300; i++) {
            keys.add(s.key());
            evening(s, rules.how);
        }
        for (int p = 1; p <= 300; p++) {
            for (int from = 0; from + p <= 300; from++) {
                if (keys.get(from).equals(keys.get(from + p))) return what == 0 ? p : from;
            }
        }
        return -2;
    }

    int apart(int n) {
        return n < 0 || n > 300 ? -1 : after(now, n).apart();
    }

    int even(int d, int how) {
        if (d < 0 || how < 0 || how > 2) return -1;
        State s = now.copy();
        for (int n = 0; n <= 300; n++) {
            if (s.apart() <= d) return n;
            evening(s, how);
        }
        return -2;
    }

    int soonest(int d) {
        if (d < 0) return -1;
        int best = -2;
        for (int how = 2; how >= 0; how--) {
            int n = even(d, how);
            if (n >= 0 && (best < 0 || n <= even(d, best))) best = how;
        }
        return best;
    }

    int start(int house, int what) {
        if (!now.has(house) || what < 0 || what > 1) return -1;
        int[] has = new int[now.n()];
        int best = 0;
        for (int first = 0; first < has.length; first++) {
            State s = now.copy();
            for (int k = 0; k < has.length; k++) {
                int i = (first + k) % has.length;
                pay(s, i, wanted(s, i));
            }
            has[first] = s.at(house).purse;
            if (has[first] > has[best]) best = first;
        }
        return what == 0 ? best : has[best];
    }

    int wealth(int a, int b, int x) {
        if (!now.has(a) || !now.has(b) || x < 0 || x > now.at(a).shown()) return -1000000;
        State less = now.copy();
        less.at(a).purse -= x;
        return after(now, 1).at(b).paid - after(less, 1).at(b).paid;
    }

    int free(int house, int what) {
        if (!now.has(house) || what < 0 || what > 1) return -1;
        if (wanted(now, house) == 0) return what == 0 ? 0 : -2;
        for (int x = 1; x <= now.at(house).shown() && x <= 2000; x++) {
            for (int to = 0; to < now.n(); to++) {
                if (to == house) continue;
                State s = now.copy();
                s.at(house).purse -= x;
                s.at(to).purse += x;
                if (wanted(s, house) == 0) return what == 0 ? x : to;
            }
        }
        return -2;
    }

    int best(int house, int unit, int n, int what) {
        if (!now.has(house) || unit < 1 || unit > 999 || n < 1 || n > 30 || what < 0 || what > 2) return -1;
        int[] best = {0, -2, after(now, n).at(house).purse};
        for (int k = 1; k <= 20 && k * unit <= now.at(house).shown(); k++) {
            for (int to = 0; to < now.n(); to++) {
                if (to == house) continue;
                State s = now.copy();
                s.at(house).purse -= k * unit;
                s.at(to).purse += k * unit;
                int has = after(s, n).at(house).purse;
                if (has > best[2]) best = new int[] {k * unit, to, has};
            }
        }
        return best[what];
    }

    int loan(int a, int b, int x, boolean most) {
        if (!now.has(a) || !now.has(b) || a == b || x < 1 || x > now.at(a).shown()) return -1000000;
        State without = after(now, 1);
        State with = now.copy();
        with.at(a).purse -= x;
        with.at(b).purse += x;
        evening(with, rules.how);
        int given = Math.min(x, with.at(b).shown());
        int aHas = with.at(a).purse + given;
        int bHas = with.at(b).purse - given;
        // the rates are looked for one by one, from where a surely has less, and b surely no less
        int r = -100000;
        while (most ? bHas - (r + 1) >= without.at(b).purse : aHas + r < without.at(a).purse) r++;
        return r;
    }

    int site(int purse) {
        if (purse < 0 || purse > 9999) return -1;
        if (now.n() == 10) return -2;
        int best = -1;
        long least = 0;
        for (int i = 0; i <= now.n(); i++) {
            State s = now.copy();
            s.houses.add(i, new House(purse));
            long sum = 0;
            for (int j = 0; j < s.n(); j++) sum += wanted(s, j);
            if (best < 0 || sum < least) {
                best = i;
                least = sum;
            }
        }
        return best;
    }

    private int planned(int unit, int set, int house) {
        State s = now.copy();
        for (int i = 0; i < s.n(); i++) s.at(i).hidden = (set & (1 << i)) != 0 ? Math.min(unit, s.at(i).purse) : 0;
        return after(s, 1).at(house).purse;
    }

    int rests(int unit, int i) {
        if (unit < 1 || unit > 999 || i < -1) return -1;
        if (now.n() > 8) return -2;
        List<Integer> found = new ArrayList<>();
        for (int set = 0; set < 1 << now.n(); set++) {
            boolean rests = true;
            for (int h = 0; h < now.n() && rests; h++) {
                rests = planned(unit, set ^ (1 << h), h) <= planned(unit, set, h);
            }
            if (rests) found.add(set);
        }
        if (i == -1) return found.size();
        return i < found.size() ? found.get(i) : -1;
    }

    // ---- what is told

    int tell(int house, int pay) {
        if (!now.has(house) || pay < 0 || pay > 9999 || told.size() == 20) return -1;
        told.add(new int[] {house, pay});
        return told.size() - 1;
    }

    int forget() {
        int n = told.size();
        told.clear();
        return n;
    }

    private List<State> rows(int most) {
        if (Math.pow(most + 1, now.n()) > 200000) return null;
        List<State> rows = new ArrayList<>();
        State first = now.copy();
        for (House h : first.houses) h.hidden = 0;
        rows.add(first);
        for (int i = 0; i < now.n(); i++) {
            List<State> longer = new ArrayList<>();
            for (State s : rows) {
                for (int p = 0; p <= most; p++) {
                    State t = s.copy();
                    t.at(i).purse = p;
                    longer.add(t);
                }
            }
            rows = longer;
        }
        return rows;
    }

    private List<State> fitting(int most, int k) {
        List<State> rows = rows(most);
        if (rows == null) return null;
        Map<Integer, Integer> known = new HashMap<>();
        for (int i = 0; i < k; i++) known.put(told.get(i)[0], told.get(i)[1]);
        rows.removeIf(row -> {
            State s = row.copy();
            payAll(s);
            for (int i = 0; i < s.n(); i++) {
                if (known.containsKey(i) && known.get(i) != s.at(i).paid) return true;
            }
            return false;
        });
        return rows;
    }

    int fits(int most, int k) {
        if (most < 1 || most > 20 || k < 0 || k > told.size()) return -1;
        List<State> rows = fitting(most, k);
        return rows == null ? -2 : rows.size();
    }

    int span(int most, int k, int house) {
        if (most < 1 || most > 20 || k < 0 || k > told.size() || !now.has(house)) return -1;
        List<State> rows = fitting(most, k);
        if (rows == null || rows.isEmpty()) return -2;
        int least = rows.stream().mapToInt(s -> s.at(house).purse).min().getAsInt();
        int greatest = rows.stream().mapToInt(s -> s.at(house).purse).max().getAsInt();
        return 100 * least + greatest;
    }

    int ago(int most) {
        if (most < 1 || most > 20) return -1;
        List<State> rows = rows(most);
        if (rows == null) return -2;
        int count = 0;
        for (State s : rows) {
            payAll(s);
            boolean same = true;
            for (int i = 0; i < s.n(); i++) same &= s.at(i).purse == now.at(i).purse;
            if (same) count++;
        }
        return count;
    }

    boolean hold(int slot) {
        if (slot < 0 || slot > 2) return false;
        slots[slot] = now.copy();
        return true;
    }

    boolean restore(int slot) {
        if (slot < 0 || slot > 2 || slots[slot] == null) return false;
        now = slots[slot].copy();
        past.clear();
        return true;
    }

    int count(int what) {
        switch (what) {
            case 0: return now.n();
            case 1: return rules.street ? 1 : 0;
            case 2: return rules.turns ? 1 : 0;
            case 3: return rules.how;
            case 4: return rules.every;
            case 5: return now.pot;
            case 6: return now.evening;
            case 7: return now.houses.stream().mapToInt(h -> h.purse).sum();
            case 8: return now.shares;
            case 9: return tape.length();
            case 10: return past.size();
            case 11: return told.size();
            case 12: return (int) Arrays.stream(slots).filter(s -> s != null).count();
            default: return -1;
        }
    }
}
