import java.util.Random;

/** Runs of calls told by a fixed seed, each answer compared with the model's. */
final class ModelTest {
    private static final int RUNS = 2500;
    private static final int CALLS = 120;

    private final Random luck;
    private final RingPurses x = new RingPurses();
    private final Model m = new Model();
    private String last = "";
    private int houses = 0;

    private ModelTest(int seed) {
        luck = new Random(seed);
    }

    public static void main(String[] args) {
        for (int seed = 0; seed < RUNS && Check.wrongSoFar() < 20; seed++) new ModelTest(seed).play(seed);
        Check.end();
    }

    private int below(int n) {
        return luck.nextInt(n);
    }

    private int from(int least, int most) {
        return least + below(most - least + 1);
    }

    private boolean rarely() {
        return below(12) == 0;
    }

    private int anyHouse() {
        return rarely() ? from(-2, 11) : below(Math.max(1, houses));
    }

    private int odd(int usual) {
        if (!rarely()) return usual;
        int[] odd = {-1, 0, 1, Integer.MIN_VALUE, Integer.MAX_VALUE, 9999, 10000, 999, 1000, 20, 21, 30, 31, 300, 301, -2};
        return odd[below(odd.length)];
    }

    private void play(int seed) {
        feedText();
        for (int i = 0; i < CALLS; i++) {
            houses = m.count(0);
            call(seed);
            if (Check.wrongSoFar() > 0) {
                System.out.println("  (seed " + seed + ", call " + i + ": " + last + ")");
                return;
            }
        }
        for (int what = 0; what <= 12; what++) due("count(" + what + ")", x.count(what), m.count(what));
    }

    private void due(String call, long got, long want) {
        last = call;
        Check.due(call, got, want);
    }

    private void due(String call, boolean got, boolean want) {
        due(call, got ? 1 : 0, want ? 1 : 0);
    }

    private void call(int seed) {
        switch (below(16)) {
            case 0: case 1: case 2: case 3: doSomething(); break;
            case 4: case 5: case 6: look(); break;
            case 7: if (below(3) == 0) feedText(); break;
            case 8: case 9: askEvenings(); break;
            case 10: case 11: askDeals(); break;
            case 12: askPlans(); break;
            case 13: tellSomething(); break;
            case 14: askTold(); break;
            default: keep(); break;
        }
    }

    private void doSomething() {
        int a = anyHouse();
        int b = anyHouse();
        int has = Math.max(0, m.house(a, 0));
        int shown = Math.max(0, m.house(a, 2));
        switch (below(9)) {
            case 0: case 1: {
                int n = odd(below(5) == 0 ? below(60) : below(4));
                due("run " + n, x.run(n), m.run(n));
                break;
            }
            case 2: {
                int g = odd(below(shown + 2));
                due("give " + a + " " + b + " " + g, x.give(a, b, g), m.give(a, b, g));
                break;
            }
            case 3: {
                int h = odd(below(has + 2));
                due("hide " + a + " " + h, x.hide(a, h), m.hide(a, h));
                break;
            }
            case 4:
                due("grab " + a, x.grab(a), m.grab(a));
                break;
            case 5: {
                int at = odd(below(houses + 2));
                int p = odd(below(30));
                due("build " + at + " " + p, x.build(at, p), m.build(at, p));
                break;
            }
            case 6:
                if (below(2) == 0) due("burn " + a, x.burn(a), m.burn(a));
                break;
            case 7:
                if (below(2) == 0) due("join " + a, x.join(a), m.join(a));
                break;
            default:
                due("undo", x.undo(), m.undo());
        }
    }

    private void look() {
        int what = from(-1, 13);
        due("count " + what, x.count(what), m.count(what));
        for (int i = -1; i <= houses; i++) {
            int w = from(-1, 7);
            due("house " + i + " " + w, x.house(i, w), m.house(i, w));
        }
    }

    private void askEvenings() {
        switch (below(6)) {
            case 0:
                if (below(3) > 0) break;
                due("becomes 0", x.becomes(0), m.becomes(0));
                due("becomes 1", x.becomes(1), m.becomes(1));
                break;
            case 1: case 2: {
                int n = odd(below(40));
                due("apart " + n, x.apart(n), m.apart(n));
                break;
            }
            case 3: case 4: {
                int d = odd(below(20));
                int how = rarely() ? from(-1, 3) : below(3);
                due("even " + d + " " + how, x.even(d, how), m.even(d, how));
                break;
            }
            default: {
                int d = odd(below(30));
                if (below(3) == 0) due("soonest " + d, x.soonest(d), m.soonest(d));
            }
        }
    }

    private void askDeals() {
        int a = anyHouse();
        int b = anyHouse();
        int g = odd(below(Math.max(0, m.house(a, 2)) + 2));
        int what = from(rarely() ? -1 : 0, rarely() ? 3 : 1);
        switch (below(6)) {
            case 0:
                due("start " + a + " " + what, x.start(a, what), m.start(a, what));
                break;
            case 1:
                due("wealth " + a + " " + b + " " + g, x.wealth(a, b, g), m.wealth(a, b, g));
                break;
            case 2:
                if (m.house(a, 2) < 300) due("free " + a + " " + what, x.free(a, what), m.free(a, what));
                break;
            case 3: {
                int unit = odd(below(4) == 0 ? from(1, 40) : from(1, 4));
                int n = odd(from(1, 4));
                int w = from(0, 2);
                due("best " + a + " " + unit + " " + n + " " + w, x.best(a, unit, n, w), m.best(a, unit, n, w));
                break;
            }
            case 4: {
                boolean most = luck.nextBoolean();
                due("loan " + a + " " + b + " " + g + " " + most, x.loan(a, b, g, most), m.loan(a, b, g, most));
                break;
            }
            default: {
                int p = odd(below(40));
                due("site " + p, x.site(p), m.site(p));
            }
        }
    }

    private void askPlans() {
        if (houses > 5 && houses <= 8 && below(4) > 0) return;
        int unit = odd(from(1, 12));
        int i = rarely() ? from(-3, 300) : from(-1, 4);
        due("rests " + unit + " " + i, x.rests(unit, i), m.rests(unit, i));
    }

    private void tellSomething() {
        int a = anyHouse();
        int pay = odd(below(3) == 0 ? below(12) : Math.max(0, m.house(a, 4)));
        due("tell " + a + " " + pay, x.tell(a, pay), m.tell(a, pay));
        if (below(15) == 0) due("forget", x.forget(), m.forget());
    }

    private void askTold() {
        int most = rarely() ? odd(20) : from(1, houses > 5 ? 1 : houses > 3 ? 3 : 12);
        if (Math.pow(most + 1.0, houses) > 3000 && Math.pow(most + 1.0, houses) < 200001 && below(20) > 0) return;
        int k = odd(below(m.count(11) + 1));
        int a = anyHouse();
        switch (below(3)) {
            case 0: due("fits " + most + " " + k, x.fits(most, k), m.fits(most, k)); break;
            case 1: due("span " + most + " " + k + " " + a, x.span(most, k, a), m.span(most, k, a)); break;
            default: due("ago " + most, x.ago(most), m.ago(most));
        }
    }

    private void keep() {
        int slot = rarely() ? from(-1, 3) : below(3);
        if (below(2) == 0) due("hold " + slot, x.hold(slot), m.hold(slot));
        else due("restore " + slot, x.restore(slot), m.restore(slot));
    }

    // ---- texts

    private void feedText() {
        String text = text();
        if (below(4) == 0) text = spoiled(text);
        byte[] bytes = new byte[text.length()];
        for (int i = 0; i < bytes.length; i++) bytes[i] = (byte) text.charAt(i);
        int n = 0;
        for (; n < bytes.length; n += 20) {
            int[] w = new int[5];
            for (int k = 0; k < 5; k++) w[k] = Check.word(bytes, n + 4 * k);
            due("feed", x.feed(w[0], w[1], w[2], w[3], w[4]), m.feed(w[0], w[1], w[2], w[3], w[4]));
        }
        int back = Math.max(0, n - bytes.length);
        due("back " + back, x.back(back), m.back(back));
        if (rarely()) due("back", x.back(2001), m.back(2001));
        int fault = m.read();
        due("read of " + text, x.read(), fault);
        due("place in " + text, x.place(), m.place());
    }

    private String text() {
        StringBuilder s = new StringBuilder();
        int most = rarely() ? 11 : below(4) == 0 ? 9 : 5;
        int n = below(most + 1);
        int wealth = below(8) == 0 ? 9999 : below(3) == 0 ? 60 : 12;
        for (int i = 0; i < n; i++) {
            s.append("house ").append(below(40) == 0 ? "a" : "" + (char) ('a' + i)).append(blank()).append(below(wealth + 1)).append(";");
            if (rarely()) s.append(other());
        }
        int others = below(5);
        for (int i = 0; i < others; i++) s.append(blank()).append(other());
        return s.toString();
    }

    private String other() {
        switch (below(7)) {
            case 0: return "street;";
            case 1: return "turns;";
            case 2: case 3: return "pays=" + law();
            case 4: return "earns " + "= " + law();
            case 5: return "shared " + (new String[] {"alike ", "most ", "round "})[below(3)] + (rarely() ? from(0, 31) : from(1, 4)) + ";";
            default: return "seed " + below(10000) + " ;";
        }
    }

    private String blank() {
        return (new String[] {" ", "\n", "\t", "  ", "\r\n"})[below(5)];
    }

    private String law() {
        StringBuilder s = new StringBuilder();
        int ifs = rarely() ? below(6) : below(4) == 0 ? 2 : below(2);
        for (int i = 0; i < ifs; i++) {
            s.append("if ").append(sum(0)).append("<").append(sum(0)).append(" then ").append(sum(0)).append(" else ");
        }
        return s.append(sum(0)).append(";").toString();
    }

    private String sum(int depth) {
        StringBuilder s = new StringBuilder(unit(depth));
        for (int i = below(3); i > 0; i--) s.append("+-*/".charAt(below(4))).append(unit(depth));
        return s.toString();
    }

    private String unit(int depth) {
        int pick = below(12);
        if (pick == 0 && depth < 8) return "(" + sum(depth + 1) + ")";
        if (pick < 4) return "" + (below(5) == 0 ? below(10000) : below(5));
        return (new String[] {"left", "right", "own", "gap", "day", "lot", "pot", "gap"})[below(8)];
    }

    private String spoiled(String text) {
        String[] bits = {";", "=", "if", "then", "(", ")", "house", "Z", "9", "99999", "abcdefghi", "street", "<", "+", " ", ".", "" + (char) 233, "\0"};
        int at = below(text.length() + 1);
        switch (below(4)) {
            case 0: return text.substring(0, at);
            case 1: return text.substring(0, at) + text.substring(Math.min(text.length(), at + 1));
            case 2: return text.substring(0, at) + bits[below(bits.length)] + text.substring(at);
            default: return text.substring(0, at) + " " + bits[below(bits.length)] + " " + text.substring(at);
        }
    }
}
