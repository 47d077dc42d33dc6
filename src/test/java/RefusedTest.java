import java.util.ArrayList;
import java.util.List;

/** Calls that are refused, and calls that ask: of each the answer, and that nothing at all happens by it. */
final class RefusedTest {
    private static final int LEAST = Integer.MIN_VALUE;
    private static final int GREATEST = Integer.MAX_VALUE;

    private final String name;
    private final Whole.Make make;
    private final String untouched;
    private final int houses;

    private RefusedTest(String name, Whole.Make make) {
        this.name = name;
        this.make = make;
        untouched = Whole.of(make.make());
        houses = make.make().count(0);
    }

    public static void main(String[] args) {
        List<RefusedTest> all = new ArrayList<>();
        all.add(new RefusedTest("ring", Samples::ring));
        all.add(new RefusedTest("street", Samples::street));
        all.add(new RefusedTest("none", Samples::none));
        all.add(new RefusedTest("full", Samples::full));
        all.add(new RefusedTest("new", RingPurses::new));
        for (RefusedTest t : all) {
            t.refusedBytes();
            t.refusedThings();
            t.refusedOfHouses();
            t.refusedBuilding();
            t.refusedTelling();
            t.refusedSlots();
            t.askedOfHouses();
            t.askedOfAll();
            t.askedWrongly();
        }
        Check.end();
    }

    private void refused(String call, long want, Whole.Call c) {
        RingPurses x = make.make();
        Check.due(name + ": " + call, c.of(x), want);
        Check.due(name + ": " + call + ": nothing happens", Whole.of(x).equals(untouched), true);
    }

    /** Whatever it answers, twice the same. */
    private void asked(String call, Whole.Call c) {
        RingPurses x = make.make();
        long answer = c.of(x);
        Check.due(name + ": " + call + " again", c.of(x), answer);
        Check.due(name + ": " + call + ": nothing happens", Whole.of(x).equals(untouched), true);
    }

    private int[] noHouses() {
        return new int[] {LEAST, -1, houses, houses + 1, GREATEST};
    }

    private void refusedBytes() {
        int bytes = make.make().count(9);
        for (int n : new int[] {LEAST, -1, bytes + 1, 2001, GREATEST}) refused("back(" + n + ")", -1, x -> x.back(n));
        refused("back(0)", bytes, x -> x.back(0));
        refused("feed and back", bytes, x -> {
            x.feed(-1, -1, -1, -1, -1);
            return x.back(20);
        });
    }

    private void refusedThings() {
        for (int n : new int[] {LEAST, -1, 301, GREATEST}) refused("run(" + n + ")", -1, x -> x.run(n));
        refused("run(0)", make.make().count(6), x -> x.run(0));
        for (int i = 0; i < houses; i++) {
            int house = i;
            int other = (i + 1) % houses;
            int shown = make.make().house(i, 2);
            int has = make.make().house(i, 0);
            for (int much : new int[] {LEAST, -1, shown + 1, GREATEST}) {
                refused("give(" + house + ", " + other + ", " + much + ")", 0, x -> Whole.yes(x.give(house, other, much)));
            }
            refused("give(" + house + ", " + house + ", 0)", 0, x -> Whole.yes(x.give(house, house, 0)));
            for (int much : new int[] {LEAST, -1, has + 1, GREATEST}) {
                refused("hide(" + house + ", " + much + ")", 0, x -> Whole.yes(x.hide(house, much)));
            }
        }
    }

    private void refusedOfHouses() {
        for (int no : noHouses()) {
            refused("give(" + no + ", 0, 0)", 0, x -> Whole.yes(x.give(no, 0, 0)));
            refused("give(0, " + no + ", 0)", 0, x -> Whole.yes(x.give(0, no, 0)));
            refused("hide(" + no + ", 0)", 0, x -> Whole.yes(x.hide(no, 0)));
            refused("grab(" + no + ")", -1, x -> x.grab(no));
            refused("burn(" + no + ")", -1, x -> x.burn(no));
            refused("join(" + no + ")", -1, x -> x.join(no));
        }
        boolean street = make.make().count(1) == 1;
        if (houses > 0 && (street || houses < 2)) refused("join of the last one", -1, x -> x.join(houses - 1));
    }

    private void refusedBuilding() {
        for (int no : new int[] {LEAST, -1, houses + 1, GREATEST}) refused("build(" + no + ", 5)", -1, x -> x.build(no, 5));
        for (int no : new int[] {LEAST, -1, 10000, GREATEST}) refused("build(0, " + no + ")", -1, x -> x.build(0, no));
        if (houses < 10) return;
        for (int at : new int[] {0, 1, 9, 10}) refused("an eleventh at " + at, -1, x -> x.build(at, 5));
    }

    private void refusedTelling() {
        for (int no : noHouses()) refused("tell(" + no + ", 0)", -1, x -> x.tell(no, 0));
        for (int no : new int[] {LEAST, -1, 10000, GREATEST}) refused("tell(0, " + no + ")", -1, x -> x.tell(0, no));
        int told = make.make().count(11);
        if (told == 20) refused("a twenty-first", -1, x -> x.tell(0, 0));
        if (told == 0) refused("forget nothing", 0, x -> x.forget());
        if (make.make().count(10) == 0) refused("undo of none", 0, x -> Whole.yes(x.undo()));
    }

    private void refusedSlots() {
        for (int no : new int[] {LEAST, -1, 3, GREATEST}) {
            refused("hold(" + no + ")", 0, x -> Whole.yes(x.hold(no)));
            refused("restore(" + no + ")", 0, x -> Whole.yes(x.restore(no)));
        }
        for (int slot = 0; slot <= 2; slot++) {
            int one = slot;
            if (!make.make().restore(one)) refused("restore(" + one + ") of nothing", 0, x -> Whole.yes(x.restore(one)));
        }
    }

    private void askedOfHouses() {
        for (int i = 0; i < houses; i++) {
            int house = i;
            int other = (i + 1) % houses;
            for (int what = 0; what <= 6; what++) {
                int w = what;
                asked("house(" + house + ", " + w + ")", x -> x.house(house, w));
            }
            asked("start(" + house + ")", x -> x.start(house, 0) * 10000L + x.start(house, 1));
            asked("wealth(" + house + ", 0, 1)", x -> x.wealth(house, 0, 1));
            asked("wealth(" + house + ", " + other + ", 1)", x -> x.wealth(house, other, 1));
            asked("free(" + house + ")", x -> x.free(house, 0) * 10000L + x.free(house, 1));
            asked("best(" + house + ")", x -> x.best(house, 3, 4, 0) + 100L * x.best(house, 3, 4, 1) + 10000L * x.best(house, 3, 4, 2));
            asked("loan(" + house + ", " + other + ", 1)", x -> x.loan(house, other, 1, true) * 10000L + x.loan(house, other, 1, false));
            asked("span(2, 0, " + house + ")", x -> x.span(2, 0, house));
            asked("span(2, 1, " + house + ")", x -> x.span(2, 1, house));
        }
    }

    private void askedOfAll() {
        asked("place", x -> x.place());
        for (int what = 0; what <= 12; what++) {
            int w = what;
            asked("count(" + w + ")", x -> x.count(w));
        }
        asked("becomes", x -> x.becomes(0) * 1000L + x.becomes(1));
        for (int n : new int[] {0, 1, 300}) asked("apart(" + n + ")", x -> x.apart(n));
        for (int how = 0; how <= 2; how++) {
            int h = how;
            asked("even(0, " + h + ")", x -> x.even(0, h));
            asked("even(3, " + h + ")", x -> x.even(3, h));
        }
        for (int d : new int[] {0, 3, 9999}) asked("soonest(" + d + ")", x -> x.soonest(d));
        for (int purse : new int[] {0, 5, 9999}) asked("site(" + purse + ")", x -> x.site(purse));
        for (int i = -1; i <= 1; i++) {
            int which = i;
            asked("rests(4, " + which + ")", x -> x.rests(4, which));
        }
        for (int most = 1; most <= 3; most++) {
            int m = most;
            asked("fits(" + m + ", 0)", x -> x.fits(m, 0));
            asked("fits(" + m + ", 1)", x -> x.fits(m, 1));
            asked("ago(" + m + ")", x -> x.ago(m));
        }
    }

    private void askedWrongly() {
        for (int no : noHouses()) {
            refused("house(" + no + ", 0)", -1, x -> x.house(no, 0));
            refused("start(" + no + ", 0)", -1, x -> x.start(no, 0));
            refused("wealth(" + no + ", 0, 0)", -1000000, x -> x.wealth(no, 0, 0));
            refused("wealth(0, " + no + ", 0)", -1000000, x -> x.wealth(0, no, 0));
            refused("free(" + no + ", 0)", -1, x -> x.free(no, 0));
            refused("best(" + no + ", 1, 1, 0)", -1, x -> x.best(no, 1, 1, 0));
            refused("loan(" + no + ", 0, 1, true)", -1000000, x -> x.loan(no, 0, 1, true));
            refused("loan(0, " + no + ", 1, false)", -1000000, x -> x.loan(0, no, 1, false));
            refused("span(1, 0, " + no + ")", -1, x -> x.span(1, 0, no));
        }
        for (int no : new int[] {LEAST, -2, GREATEST}) {
            refused("house(0, " + no + ")", -1, x -> x.house(0, no));
            refused("becomes(" + no + ")", -1, x -> x.becomes(no));
            refused("apart(" + no + ")", -1, x -> x.apart(no));
            refused("even(0, " + no + ")", -1, x -> x.even(0, no));
            refused("start(0, " + no + ")", -1, x -> x.start(0, no));
            refused("wealth(0, 0, " + no + ")", -1000000, x -> x.wealth(0, 0, no));
            refused("free(0, " + no + ")", -1, x -> x.free(0, no));
            refused("best(0, 1, " + no + ", 0)", -1, x -> x.best(0, 1, no, 0));
            refused("best(0, " + no + ", 1, 0)", -1, x -> x.best(0, no, 1, 0));
            refused("best(0, 1, 1, " + no + ")", -1, x -> x.best(0, 1, 1, no));
            refused("loan(0, 1, " + no + ", true)", -1000000, x -> x.loan(0, 1, no, true));
            refused("site(" + no + ")", -1, x -> x.site(no));
            refused("rests(" + no + ", -1)", -1, x -> x.rests(no, -1));
            refused("fits(" + no + ", 0)", -1, x -> x.fits(no, 0));
            refused("fits(1, " + no + ")", -1, x -> x.fits(1, no));
            refused("span(" + no + ", 0, 0)", -1, x -> x.span(no, 0, 0));
            refused("span(1, " + no + ", 0)", -1, x -> x.span(1, no, 0));
            refused("ago(" + no + ")", -1, x -> x.ago(no));
            refused("count(" + no + ")", -1, x -> x.count(no));
        }
        refused("even(-1, 0)", -1, x -> x.even(-1, 0));
        refused("soonest(-1)", -1, x -> x.soonest(-1));
    }
}
