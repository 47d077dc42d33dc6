/** Each promise of the document: ordinary calls, the edges that it names, and wrong calls, worked out by hand. */
final class PromisesTest {
    private static final String FOUR = "house a 10;house b 4;house c 7;house d 1;shared alike 2;";
    private static final String TEN = "house a 1;house b 1;house c 1;house d 1;house e 1;house f 1;house g 1;house h 1;"
        + "house i 1;house j 1;";
    private static final int LEAST = Integer.MIN_VALUE;
    private static final int GREATEST = Integer.MAX_VALUE;

    public static void main(String[] args) {
        aNewObject();
        feed();
        back();
        read();
        place();
        house();
        run();
        runShares();
        runByTurns();
        runEarns();
        give();
        hide();
        grab();
        build();
        burn();
        join();
        undo();
        becomes();
        apart();
        even();
        soonest();
        start();
        wealth();
        free();
        best();
        loan();
        site();
        rests();
        tell();
        forget();
        fits();
        span();
        ago();
        hold();
        restore();
        count();
        Check.end();
    }

    private static void due(String call, long got, long want) {
        Check.due(call, got, want);
    }

    private static void due(String call, boolean got, boolean want) {
        Check.due(call, got, want);
    }

    private static void purses(String when, RingPurses x, int... want) {
        due(when + ": houses", x.count(0), want.length);
        for (int i = 0; i < want.length; i++) due(when + ": house(" + i + ", 0)", x.house(i, 0), want[i]);
    }

    private static void aNewObject() {
        due("NONE", RingPurses.NONE, -1);
        RingPurses x = new RingPurses();
        for (int what = 0; what <= 12; what++) due("new: count(" + what + ")", x.count(what), what == 4 ? 7 : 0);
        due("new: place", x.place(), -1);
        due("new: undo", x.undo(), false);
        due("new: restore", x.restore(0), false);
        x.build(0, 10);
        x.build(1, 30);
        due("new: pays gap", x.house(0, 4), 0);
        x.build(2, 7);
        due("new: pays gap of a ring", x.house(0, 4), 10);
        x.run(1);
        due("new: earns 0", x.count(7) + x.count(5), 47);
    }

    private static void feed() {
        RingPurses x = new RingPurses();
        // "street;turns;" and blanks, the highest byte first
        due("feed", x.feed(0x73747265, 0x65743b74, 0x75726e73, 0x3b202020, 0x20202020), 20);
        due("read", x.read(), 0);
        due("street", x.count(1), 1);
        due("turns", x.count(2), 1);
        for (int i = 1; i <= 100; i++) due("feed " + i, x.feed(-1, LEAST, GREATEST, 0, i), 20 * i);
        due("feed of a full tape", x.feed(0, 0, 0, 0, 0), -1);
        due("nothing comes", x.count(9), 2000);
        x.back(19);
        due("feed with room for 19", x.feed(0, 0, 0, 0, 0), -1);
        x.back(1);
        due("feed with room for 20", x.feed(0, 0, 0, 0, 0), 2000);
    }

    private static void back() {
        RingPurses x = new RingPurses();
        due("back of nothing", x.back(0), 0);
        due("back of too much", x.back(1), -1);
        Check.feed(x, "street;turns");
        due("back(-1)", x.back(-1), -1);
        due("back least", x.back(LEAST), -1);
        due("back(13)", x.back(13), -1);
        due("nothing goes", x.count(9), 12);
        due("back(0)", x.back(0), 12);
        due("back(5)", x.back(5), 7);
        due("what is left is read", x.read() + x.count(1) + 10 * x.count(2), 1);
        Check.feed(x, "street;");
        due("back of all", x.back(7), 0);
    }

    private static void read() {
        RingPurses x = Check.of(FOUR + "street;turns;");
        purses("read", x, 10, 4, 7, 1);
        x.tell(0, 1);
        x.hold(2);
        x.run(3);
        Check.feed(x, "house z 5; house");
        due("read with a fault", x.read(), 1);
        due("the tape is empty then", x.count(9), 0);
        due("the rest is as it was: evening", x.count(6), 3);
        due("street", x.count(1), 1);
        due("houses", x.count(0), 4);
        due("told", x.count(11), 1);
        due("slots", x.count(12), 1);
        due("undo", x.count(10), 1);
        due("read of what is twice", Check.read(x, "house a 1; house a 2;"), 3);
        due("read of wrong evenings", Check.read(x, "shared alike 31;"), 5);
        due("houses", x.count(0), 4);
        x.hide(0, 1);
        due("read without", Check.read(x, "house z 5;"), 0);
        purses("read again", x, 5);
        int[] want = {1, 0, 0, 0, 7, 0, 0, 5, 0, 0, 0, 0, 0};
        for (int what = 0; what <= 12; what++) due("read again: count(" + what + ")", x.count(what), want[what]);
        due("nothing hidden", x.house(0, 1), 0);
        due("slots hold nothing", x.restore(2), false);
        due("nothing to undo", x.undo(), false);
        due("read of an empty tape", x.read(), 0);
        due("no houses then", x.count(0), 0);
    }

    private static void place() {
        RingPurses x = new RingPurses();
        due("fault", Check.read(x, "street; turn;"), 1);
        due("place", x.place(), 8);
        due("place again", x.place(), 8);
        due("fault", Check.read(x, "house a 1; house a 2;"), 3);
        due("place of twice", x.place(), 17);
        Check.read(x, "street");
        due("place at the end", x.place(), 6);
        due("no fault", Check.read(x, "street;"), 0);
        due("place without", x.place(), -1);
    }

    private static void house() {
        RingPurses x = Check.of(FOUR);
        x.run(1);
        x.hide(0, 2);
        int[][] want = {{7, 2, 5, 1, 1, 3, 3}, {1, 0, 1, 1, 1, 3, 3}, {4, 0, 4, 1, 1, 3, 3}, {0, 0, 0, 1, 0, 1, 1}};
        for (int i = 0; i < 4; i++) {
            for (int what = 0; what < 7; what++) due("house(" + i + ", " + what + ")", x.house(i, what), want[i][what]);
        }
        x.run(1);
        due("paid the last evening", x.house(0, 5), 1);
        due("paid since it was shared", x.house(0, 6), 0);
        x.run(1);
        for (int what : new int[] {-1, 7, LEAST, GREATEST}) due("house(0, " + what + ")", x.house(0, what), -1);
        for (int i : new int[] {-1, 4, LEAST, GREATEST}) due("house(" + i + ", 0)", x.house(i, 0), -1);
        due("house without houses", new RingPurses().house(0, 0), -1);
    }

    private static void run() {
        RingPurses x = Check.of(FOUR);
        due("run(0)", x.run(0), 0);
        due("run(0) is no thing done", x.count(10), 0);
        due("run(1)", x.run(1), 1);
        purses("run(1)", x, 7, 1, 4, 0);
        due("pot", x.count(5), 10);
        due("run(1) again", x.run(1), 2);
        purses("run(1) again", x, 9, 3, 6, 3);
        due("run(-1)", x.run(-1), -1);
        due("run(301)", x.run(301), -1);
        due("run least", x.run(LEAST), -1);
        due("run greatest", x.run(GREATEST), -1);
        due("nothing happens", x.count(6), 2);
        due("run(300)", x.run(300), 302);
        due("run(300) again", x.run(300), 602);
        due("run is one thing done", x.count(10), 4);
        due("evenings without houses", new RingPurses().run(14), 14);
    }

    private static void runShares() {
        RingPurses x = Check.of("house a 5;house b 5;house c 5;pays=1;shared alike 3;");
        x.run(2);
        due("not yet shared", x.count(5), 6);
        x.run(1);
        purses("alike", x, 5, 5, 5);
        x = Check.of("house a 9;house b 9;pays=if left<right+1 then 3 else 1;shared alike 1;");
        x.give(0, 1, 2);
        x.run(1);
        purses("alike of an even pot", x, 7, 11);
        x = Check.of("house a 9;house b 9;house c 9;pays=if 9<right then 2 else 1;shared alike 1;");
        x.give(0, 1, 1);
        x.run(1);
        // paid 2, 1, 1: 1 for each, 1 is left
        purses("alike, rounded down", x, 7, 10, 9);
        due("what is left stays", x.count(5), 1);

        x = Check.of("house a 20;house b 20;house c 20;pays=day*(left-19);shared most 2;");
        x.hide(2, 10);
        x.run(2);
        // at evening 1 all but the one behind c pay 1
        purses("most", x, 20, 21, 19);
        due("most is shared wholly", x.count(5), 0);
        x = Check.of("house a 9;house b 9;house c 9;pays=2;shared most 1;");
        x.run(1);
        purses("most, of alike ones the first", x, 13, 7, 7);

        x = Check.of("house a 9;house b 9;house c 9;pays=1;shared round 2;");
        x.run(4);
        purses("round, twice", x, 11, 11, 5);
        x.run(4);
        purses("round, four times", x, 13, 7, 7);
        due("how often", x.count(8), 4);
        x.burn(2);
        x.run(2);
        purses("round by the houses then", x, 15, 5);
        x = new RingPurses();
        x.run(30);
        due("without houses it is not shared", x.count(8), 0);
        x = Check.of("house a 5;house b 1;pays=own;shared alike 2;");
        x.run(1);
        x.burn(0);
        x.burn(0);
        x.run(1);
        due("without houses it stays", x.count(5), 6);
    }

    private static void runByTurns() {
        // at once each sees what was ahead of all, by turns what is left
        RingPurses x = Check.of("house a 8;house b 8;house c 8;pays=left/2;shared alike 30;");
        x.run(1);
        purses("at once", x, 4, 4, 4);
        x = Check.of("house a 8;house b 8;house c 8;pays=left/2;shared alike 30;turns;");
        x.run(1);
        purses("by turns", x, 4, 6, 5);
        x = Check.of("house a 8;house b 8;house c 8;pays=pot+1;shared alike 30;");
        x.run(2);
        purses("pot at once", x, 3, 3, 3);
        x = Check.of("house a 8;house b 8;house c 8;pays=pot+1;shared alike 30;turns;");
        x.run(1);
        purses("pot by turns", x, 7, 6, 4);
    }

    private static void runEarns() {
        RingPurses x = Check.of("house a 1;house b 2;house c 3;pays=0;earns=left+day;");
        x.run(1);
        purses("earns one by one", x, 4, 6, 9);
        x.run(1);
        purses("earns by the day", x, 14, 21, 31);
        x = Check.of("house a 1;pays=0;earns=1000;");
        x.run(2);
        due("earns 999 at most", x.house(0, 0), 1999);
        x = Check.of("house a 1;pays=0;earns=0-1;");
        x.run(2);
        due("earns 0 at least", x.house(0, 0), 1);
        x = Check.of("house a 1;pays=own;earns=5;shared alike 30;");
        x.run(1);
        due("pays of what it earned", x.house(0, 5), 6);
    }

    private static void give() {
        RingPurses x = Check.of(FOUR);
        x.hide(0, 4);
        due("give(0, 1, 7) of 6 shown", x.give(0, 1, 7), false);
        due("give(0, 1, -1)", x.give(0, 1, -1), false);
        due("give(0, 0, 1)", x.give(0, 0, 1), false);
        due("give(0, 4, 1)", x.give(0, 4, 1), false);
        due("give(-1, 0, 0)", x.give(-1, 0, 0), false);
        due("give(0, 1, least)", x.give(0, 1, LEAST), false);
        due("nothing happens", x.count(10), 1);
        due("give(0, 1, 6)", x.give(0, 1, 6), true);
        purses("give", x, 4, 10, 7, 1);
        due("give(0, 3, 0)", x.give(0, 3, 0), true);
        due("a gift of 0 is a thing done", x.count(10), 3);
    }

    private static void hide() {
        RingPurses x = Check.of(FOUR);
        due("hide(0, 11)", x.hide(0, 11), false);
        due("hide(0, -1)", x.hide(0, -1), false);
        due("hide(4, 0)", x.hide(4, 0), false);
        due("hide(-1, 0)", x.hide(-1, 0), false);
        due("nothing happens", x.count(10), 0);
        due("hide(0, 10)", x.hide(0, 10), true);
        due("hidden", x.house(0, 1), 10);
        due("shown", x.house(0, 2), 0);
        due("it pays nothing", x.house(0, 4), 0);
        due("the neighbour's gap", x.house(1, 3), 7);
        due("hide(0, 3)", x.hide(0, 3), true);
        due("instead of what it hid", x.house(0, 2), 7);
    }

    private static void grab() {
        RingPurses x = Check.of(FOUR);
        x.run(1);
        due("grab(4)", x.grab(4), -1);
        due("grab(-1)", x.grab(-1), -1);
        due("nothing happens", x.count(5), 10);
        due("grab(2)", x.grab(2), 10);
        purses("grab", x, 7, 1, 14, 0);
        due("the pot", x.count(5), 0);
        due("not shared", x.count(8), 0);
        due("what was paid stays", x.house(0, 6), 3);
        due("grab of nothing", x.grab(2), 0);
        due("is a thing done", x.count(10), 3);
        due("grab without houses", new RingPurses().grab(0), -1);
    }

    private static void build() {
        RingPurses x = Check.of(FOUR);
        x.run(1);
        x.hide(1, 1);
        due("build(-1, 5)", x.build(-1, 5), -1);
        due("build(5, 5)", x.build(5, 5), -1);
        due("build(0, -1)", x.build(0, -1), -1);
        due("build(0, 10000)", x.build(0, 10000), -1);
        due("nothing happens", x.count(10), 2);
        due("build(1, 9999)", x.build(1, 9999), 5);
        purses("build", x, 7, 9999, 1, 4, 0);
        due("it paid nothing", x.house(1, 5) + x.house(1, 6), 0);
        due("it hides nothing", x.house(1, 1), 0);
        due("the one behind hides", x.house(2, 1), 1);
        due("the one behind paid", x.house(2, 6), 3);
        due("build(5, 0)", x.build(5, 0), 6);
        due("build(0, 2)", x.build(0, 2), 7);
        purses("build at the ends", x, 2, 7, 9999, 1, 4, 0, 0);
        x = Check.of(TEN);
        due("an eleventh", x.build(0, 1), -1);
        x.burn(0);
        due("a tenth", x.build(9, 1), 10);
    }

    private static void burn() {
        RingPurses x = Check.of(FOUR);
        x.run(1);
        x.hide(1, 1);
        due("burn(4)", x.burn(4), -1);
        due("burn(-1)", x.burn(-1), -1);
        due("nothing happens", x.count(10), 2);
        due("burn(0)", x.burn(0), 7);
        purses("burn", x, 1, 4, 0);
        due("the one behind hides", x.house(0, 1), 1);
        due("the pot stays", x.count(5), 10);
        due("burn of what hides", x.burn(0), 1);
        due("burn(1)", x.burn(1), 0);
        due("burn(0)", x.burn(0), 4);
        due("burn of none", x.burn(0), -1);
    }

    private static void join() {
        RingPurses x = Check.of(FOUR);
        x.run(1);
        x.hide(0, 2);
        x.hide(1, 1);
        due("join(4)", x.join(4), -1);
        due("join(-1)", x.join(-1), -1);
        due("join(0)", x.join(0), 8);
        purses("join", x, 8, 4, 0);
        due("both hide", x.house(0, 1), 3);
        due("both paid the last evening", x.house(0, 5), 6);
        due("both paid", x.house(0, 6), 6);
        due("join of the last one of a ring", x.join(2), 8);
        purses("join around", x, 8, 4);
        due("they paid", x.house(0, 6), 7);
        due("join of the last of two", x.join(1), 12);
        purses("join of two", x, 12);
        due("join of one", x.join(0), -1);
        due("nothing happens", x.count(10), 6);
        x = Check.of(FOUR + "street;");
        due("in a street the last one", x.join(3), -1);
        due("in a street the one ahead", x.join(2), 8);
        purses("join in a street", x, 10, 4, 8);
    }

    private static void undo() {
        RingPurses x = Check.of(FOUR);
        x.run(1);
        x.give(0, 1, 1);
        x.hide(1, 2);
        x.grab(2);
        x.build(0, 4);
        x.burn(1);
        x.join(0);
        purses("all done", x, 6, 14, 0);
        undone("join", x, 4, 2, 14, 0);
        undone("burn", x, 4, 6, 2, 14, 0);
        undone("build", x, 6, 2, 14, 0);
        due("hidden as before it was built", x.house(1, 1), 2);
        undone("grab", x, 6, 2, 4, 0);
        due("the pot is back", x.count(5), 10);
        undone("hide", x, 6, 2, 4, 0);
        due("what was hidden", x.house(1, 1), 0);
        undone("give", x, 7, 1, 4, 0);
        due("what was paid", x.house(0, 5), 3);
        undone("run", x, 10, 4, 7, 1);
        due("the evening", x.count(6), 0);
        due("the pot", x.count(5), 0);
        due("nothing was paid", x.house(0, 5) + x.house(0, 6), 0);
        due("undo of nothing", x.undo(), false);

        x.run(2);
        due("shared", x.count(8), 1);
        x.undo();
        due("not yet shared", x.count(8), 0);

        for (int i = 1; i <= 35; i++) x.hide(0, i % 10);
        due("the last 30", x.count(10), 30);
        for (int i = 34; i >= 5; i--) {
            due("undo to " + i, x.undo(), true);
            due("hidden then", x.house(0, 1), i % 10);
        }
        due("no more", x.undo(), false);
        onlyThingsDoneAreUndone();
    }

    private static void undone(String what, RingPurses x, int... want) {
        int had = x.count(10);
        due("undo of " + what, x.undo(), true);
        due("one less", x.count(10), had - 1);
        purses("undone " + what, x, want);
    }

    private static void onlyThingsDoneAreUndone() {
        RingPurses x = Check.of(FOUR);
        x.hide(0, 1);
        x.becomes(0);
        x.apart(3);
        x.best(0, 1, 2, 0);
        x.rests(2, -1);
        x.tell(0, 3);
        x.fits(2, 1);
        x.ago(3);
        x.hold(1);
        Check.feed(x, "street;");
        due("things done", x.count(10), 1);
        due("undo", x.undo(), true);
        due("the hidden is undone", x.house(0, 1), 0);
        due("what was told stays", x.count(11), 1);
        due("what is held stays", x.count(12), 1);
        due("the tape stays", x.count(9), 7);
    }

    private static void becomes() {
        RingPurses x = Check.of(FOUR);
        due("becomes(0)", x.becomes(0), 1);
        due("becomes(1)", x.becomes(1), 7);
        x.run(7);
        due("becomes(1) then", x.becomes(1), 0);
        for (int what : new int[] {-1, 2, LEAST, GREATEST}) due("becomes(" + what + ")", x.becomes(what), -1);
        x = Check.of("house a 7;pays=own;shared alike 2;earns=if day<3 then 1 else 0;");
        due("a round of 2", x.becomes(0), 2);
        due("from 3 on", x.becomes(1), 3);
        due("nothing happens", x.count(6), 0);
        x = Check.of("house a 7;house b 7;house c 7;pays=1;shared round 1;");
        due("a round of 3", x.becomes(0), 3);
        due("from now on", x.becomes(1), 0);
        x = Check.of("house a 7;pays=0;earns=if day<299 then 1 else 0;");
        due("s + p of 300: p", x.becomes(0), 1);
        due("s + p of 300: s", x.becomes(1), 299);
        x = Check.of("house a 7;pays=0;earns=if day<300 then 1 else 0;");
        due("s + p of 301: p", x.becomes(0), -2);
        due("s + p of 301: s", x.becomes(1), -2);
        x = Check.of("house a 7;pays=1;shared alike 3;");
        due("the pot is looked at", x.becomes(0), 3);
        x = Check.of(TEN.replace("1;", "900;") + "pays=1;shared round 30;");
        due("a round of 300", x.becomes(0), 300);
        due("a round of 300 from now on", x.becomes(1), 0);
        x = Check.of("house a 900;pays=if day<4 then 1 else 0;shared alike 30;house b 7;");
        due("from when the pot stays", x.becomes(1), 4);
    }

    private static void apart() {
        RingPurses x = Check.of(FOUR);
        int[] want = {9, 7, 6, 9, 9, 10};
        for (int n = 0; n < want.length; n++) due("apart(" + n + ")", x.apart(n), want[n]);
        due("apart(300)", x.apart(300), 11);
        due("nothing happens", x.count(6), 0);
        for (int n : new int[] {-1, 301, LEAST, GREATEST}) due("apart(" + n + ")", x.apart(n), -1);
        due("without houses", new RingPurses().apart(300), 0);
        x = Check.of("house a 9;house b 3;pays=0;");
        x.hide(0, 9);
        due("what is hidden is looked at", x.apart(0), 6);
    }

    private static void even() {
        RingPurses x = Check.of(FOUR);
        due("even(6, 0)", x.even(6, 0), 2);
        due("even(7, 0)", x.even(7, 0), 1);
        due("even(9, 0)", x.even(9, 0), 0);
        due("even(5, 0)", x.even(5, 0), -2);
        due("even(greatest, 2)", x.even(GREATEST, 2), 0);
        x = Check.of("house a 0;house b 4;pays=own/2;shared most 1;");
        due("alike", x.even(0, 0), 3);
        due("most", x.even(0, 1), -2);
        due("most", x.even(4, 1), 0);
        due("round", x.even(0, 2), 1);
        due("shared as told still", x.count(3), 1);
        due("nothing happens", x.count(6), 0);
        for (int how : new int[] {-1, 3, LEAST, GREATEST}) due("even(0, " + how + ")", x.even(0, how), -1);
        due("even(-1, 0)", x.even(-1, 0), -1);
        due("even(least, 0)", x.even(LEAST, 0), -1);
        x = Check.of("house a 0;house b 300;pays=0;earns=if own<right then 1 else 0;");
        due("behind 300", x.even(0, 0), 300);
        x = Check.of("house a 0;house b 301;pays=0;earns=if own<right then 1 else 0;");
        due("behind 301", x.even(0, 0), -2);
        due("without houses", new RingPurses().even(0, 1), 0);
    }

    private static void soonest() {
        RingPurses x = Check.of("house a 0;house b 4;pays=own/2;shared most 1;");
        due("round is soonest", x.soonest(0), 2);
        due("of alike ones the first", x.soonest(4), 0);
        due("soonest(-1)", x.soonest(-1), -1);
        due("soonest(least)", x.soonest(LEAST), -1);
        due("soonest(greatest)", x.soonest(GREATEST), 0);
        due("by none", Check.of("house a 3;house b 5;").soonest(1), -2);
        due("behind 300", Check.of("house a 0;house b 300;pays=0;earns=if own<right then 1 else 0;").soonest(0), 0);
        // what the richest pays comes back to it by most; by round it makes another one the richest
        x = Check.of("house a 8;house b 6;house c 6;pays=if 7<own then 2 else 0;shared round 1;");
        due("alike then", x.even(1, 0), 1);
        due("most never", x.even(1, 1), -2);
        due("round never", x.even(1, 2), -2);
        due("alike is soonest", x.soonest(1), 0);
        due("without houses", new RingPurses().soonest(0), 0);
    }

    private static void start() {
        RingPurses x = Check.of("house a 8;house b 8;house c 8;pays=left/2;earns=5;shared alike 1;");
        int[][] want = {{2, 6}, {0, 6}, {1, 6}};
        startsAre("ring", x, want);
        due("nothing happens", x.count(7), 24);
        x = Check.of("street;turns;house a 8;house b 8;house c 8;pays=left/2;");
        startsAre("street", x, new int[][] {{0, 4}, {0, 6}, {1, 6}});
        x = Check.of("house a 8;house b 8;house c 8;pays=pot+1;");
        startsAre("pot", x, new int[][] {{0, 7}, {1, 7}, {2, 7}});
        x = Check.of("house a 8;pays=day;");
        x.run(4);
        startsAre("the day as now", x, new int[][] {{0, 0}});
        due("start(0, -1)", x.start(0, -1), -1);
        due("start(0, 2)", x.start(0, 2), -1);
        due("start(1, 0)", x.start(1, 0), -1);
        due("start(-1, 1)", x.start(-1, 1), -1);
        due("start without houses", new RingPurses().start(0, 0), -1);
    }

    private static void startsAre(String where, RingPurses x, int[][] want) {
        for (int i = 0; i < want.length; i++) {
            due(where + ": start(" + i + ", 0)", x.start(i, 0), want[i][0]);
            due(where + ": start(" + i + ", 1)", x.start(i, 1), want[i][1]);
        }
    }

    private static void wealth() {
        RingPurses x = Check.of(FOUR);
        due("less", x.wealth(0, 1, 2), 2);
        due("more", x.wealth(2, 1, 2), -1);
        due("none", x.wealth(0, 3, 2), 0);
        due("of itself", x.wealth(0, 0, 8), 1);
        due("by nothing", x.wealth(0, 1, 0), 0);
        due("by all", x.wealth(0, 1, 10), -1);
        due("by more than all", x.wealth(0, 1, 11), -1000000);
        due("below 0", x.wealth(0, 1, -1), -1000000);
        due("wealth(4, 0, 0)", x.wealth(4, 0, 0), -1000000);
        due("wealth(0, 4, 0)", x.wealth(0, 4, 0), -1000000);
        due("wealth(-1, 0, 0)", x.wealth(-1, 0, 0), -1000000);
        due("wealth(0, -1, 0)", x.wealth(0, -1, 0), -1000000);
        due("nothing happens", x.house(0, 0), 10);
        x.hide(0, 9);
        due("of what is shown", x.wealth(0, 1, 1), 0);
        due("not of what is hidden", x.wealth(0, 1, 2), -1000000);
        due("what is earned is looked at", Check.of("house a 4;house b 4;pays=left;earns=own;").wealth(0, 1, 2), 4);
        due("by turns", Check.of("house a 4;house b 9;pays=own/2+left/3;turns;").wealth(0, 1, 2), 0);
    }

    private static void free() {
        RingPurses x = Check.of(FOUR + "earns=99;");
        due("free(0, 0)", x.free(0, 0), 3);
        due("free(0, 1)", x.free(0, 1), 3);
        due("free(3, 0)", x.free(3, 0), 1);
        due("free(3, 1)", x.free(3, 1), 0);
        due("free(0, 2)", x.free(0, 2), -1);
        due("free(0, -1)", x.free(0, -1), -1);
        due("free(4, 0)", x.free(4, 0), -1);
        due("free(-1, 1)", x.free(-1, 1), -1);
        due("nothing happens", x.house(0, 0), 10);
        x = Check.of("house a 5;house b 5;house c 5;");
        due("none needed", x.free(0, 0), 0);
        due("to none", x.free(0, 1), -2);
        x = Check.of("house a 5;pays=1;");
        due("there is none: how much", x.free(0, 0), -2);
        due("there is none: to whom", x.free(0, 1), -2);
        due("2000", Check.of("house a 2000;house b 0;pays=own;").free(0, 0), 2000);
        due("2001", Check.of("house a 2001;house b 0;pays=own;").free(0, 0), -2);
        x = Check.of("house a 9;house b 0;house c 0;pays=if own<7 then 0 else 1;");
        due("the least number", x.free(0, 1), 1);
        x.hide(0, 1);
        due("of what is shown", x.free(0, 0), 2);
        x = Check.of("house a 9;house b 0;pays=if right<4 then 1 else 0;");
        x.hide(0, 6);
        due("as far as it has shown", x.free(0, 0), 3);
        x = Check.of("house a 9;house b 0;pays=if right<4 then 9 else 0;");
        x.hide(0, 3);
        due("as all are then", x.free(0, 0), 4);
    }

    private static void bestIs(String when, RingPurses x, int house, int unit, int n, int much, int whom, int gain) {
        due(when + ": how much", x.best(house, unit, n, 0), much);
        due(when + ": to whom", x.best(house, unit, n, 1), whom);
        due(when + ": what it has", x.best(house, unit, n, 2), gain);
    }

    private static void best() {
        RingPurses x = Check.of("house a 10;house b 0;house c 5;house d 9;pays=2*gap;");
        bestIs("of ones", x, 0, 1, 1, 9, 1, 1);
        bestIs("of threes", x, 0, 3, 1, 9, 1, 1);
        bestIs("of nines", x, 0, 9, 1, 9, 1, 1);
        bestIs("of eights", x, 0, 8, 1, 0, -2, 0);
        bestIs("of more than it has", x, 0, 999, 1, 0, -2, 0);
        due("nothing happens", x.house(0, 0), 10);
        x = Check.of("house a 100;house b 0;house c 0;house d 25;pays=8*gap;");
        bestIs("20 ones at most", x, 0, 1, 1, 20, 1, 40);
        bestIs("of fives", x, 0, 5, 1, 25, 1, 75);
        x.hide(0, 78);
        bestIs("as far as it has shown them", x, 0, 5, 1, 0, -2, 78);
        x = Check.of("house a 9;house b 9;house c 9;pays=if own<9 then 0 else own;");
        bestIs("of alike ones the least", x, 0, 1, 1, 1, 1, 8);
        bestIs("and the least number", x, 1, 1, 6, 1, 0, 8);
        x = Check.of("house a 9;house b 1;pays=if day<1 then right else 0;shared alike 2;earns=day;");
        bestIs("over two evenings", x, 0, 1, 2, 0, -2, 10);
        due("unit 0", x.best(0, 0, 1, 0), -1);
        due("unit 1000", x.best(0, 1000, 1, 0), -1);
        due("unit 999", x.best(0, 999, 1, 0), 0);
        due("n 0", x.best(0, 1, 0, 0), -1);
        due("n 31", x.best(0, 1, 31, 0), -1);
        due("what -1", x.best(0, 1, 1, -1), -1);
        due("what 3", x.best(0, 1, 1, 3), -1);
        due("house 2", x.best(2, 1, 1, 0), -1);
        due("house -1", x.best(-1, 1, 1, 0), -1);
        due("all greatest", x.best(GREATEST, GREATEST, GREATEST, GREATEST), -1);
    }

    private static void loan() {
        RingPurses x = Check.of(FOUR);
        due("least", x.loan(0, 3, 2, false), -2);
        due("most", x.loan(0, 3, 2, true), 0);
        due("of nothing", x.loan(0, 3, 0, true), -1000000);
        due("of all", x.loan(0, 3, 10, true) > -1000000, true);
        due("of more", x.loan(0, 3, 11, true), -1000000);
        due("below 0", x.loan(0, 3, -1, false), -1000000);
        due("to itself", x.loan(2, 2, 1, true), -1000000);
        due("to none", x.loan(2, 4, 1, true), -1000000);
        due("of none", x.loan(-1, 2, 1, true), -1000000);
        x.hide(0, 9);
        due("of what is hidden", x.loan(0, 3, 2, false), -1000000);
        due("nothing happens", x.house(0, 0), 10);
        x = Check.of("house a 3;house b 2;pays=if own<5 then 0 else own;");
        due("what cannot be given back: least", x.loan(0, 1, 3, false), 3);
        due("what cannot be given back: most", x.loan(0, 1, 3, true), -2);
        x = Check.of("house a 10;house b 0;pays=own/2;earns=1;");
        due("behind an evening with earns: least", x.loan(0, 1, 4, false), -1);
        due("behind an evening with earns: most", x.loan(0, 1, 4, true), -1);
        x = Check.of("house a 10;house b 5;pays=if own<6 then 0 else own;");
        x.hide(1, 4);
        // b, that shows 8 of 12, pays these 8 and keeps what is hidden, of which it gives nothing back
        due("as far as it is shown: least", x.loan(0, 1, 7, false), -3);
        due("as far as it is shown: most", x.loan(0, 1, 7, true), -1);
    }

    private static void site() {
        due("no houses", new RingPurses().site(5), 0);
        due("of alike ones the first", Check.of("house a 0;house b 9;house c 0;").site(9), 0);
        RingPurses x = Check.of("street;house a 0;house b 5;house c 9;earns=99;turns;");
        due("behind all", x.site(7), 3);
        due("nothing happens", x.count(0), 3);
        due("site(-1)", x.site(-1), -1);
        due("site(10000)", x.site(10000), -1);
        due("site(0)", x.site(0) >= 0, true);
        due("site(9999)", x.site(9999) >= 0, true);
        x = Check.of(TEN);
        due("10 are there", x.site(5), -2);
        due("NONE first", x.site(-1), -1);
        x.burn(0);
        due("9 are there", x.site(1), 0);
        x = Check.of("house a 3;house b 3;house c 3;house d 3;pays=if left<1 then 0 else 1;street;");
        x.hide(2, 3);
        due("a place between", x.site(0), 0);
    }

    private static void rests() {
        RingPurses x = Check.of("house a 5;pays=own;");
        due("one that hides: how many", x.rests(3, -1), 1);
        due("one that hides: which", x.rests(3, 0), 1);
        due("not so many", x.rests(3, 1), -1);
        due("what it has, if that is less", x.rests(999, 0), 1);
        x.hide(0, 5);
        due("instead of what it hides", x.rests(3, -1), 1);
        due("nothing happens", x.house(0, 1), 5);
        due("unit 0", x.rests(0, -1), -1);
        due("unit 1000", x.rests(1000, -1), -1);
        due("unit -1", x.rests(-1, -1), -1);
        due("i -2", x.rests(3, -2), -1);
        due("i greatest", x.rests(3, GREATEST), -1);
        x = Check.of("house a 5;house b 5;pays=own;");
        due("both hide: how many", x.rests(5, -1), 1);
        due("both hide: which", x.rests(5, 0), 3);
        x = Check.of("house a 5;house b 5;pays=own;shared alike 1;");
        due("shared alike it pays to hide still", x.rests(5, 0), 3);
        x = Check.of("house a 5;pays=own;shared alike 1;");
        due("what comes back need not be hidden", x.rests(5, -1), 2);
        x = Check.of("house a 4;house b 5;house c 0;");
        due("how many", x.rests(5, -1), 6);
        due("the least bits first", x.rests(5, 0), 1);
        due("the fourth", x.rests(5, 3), 5);
        x = Check.of(TEN + "pays=0;");
        due("10 houses", x.rests(1, -1), -2);
        due("10 houses, i", x.rests(1, 5), -2);
        due("NONE first: unit", x.rests(0, -1), -1);
        due("NONE first: i", x.rests(1, -2), -1);
        x.burn(0);
        due("9 houses", x.rests(1, -1), -2);
        x.burn(0);
        due("8 houses", x.rests(1, -1), 256);
        due("8 houses, the last", x.rests(1, 255), 255);
        due("8 houses, none behind it", x.rests(1, 256), -1);
        due("without houses", new RingPurses().rests(5, -1), 1);
    }

    private static void tell() {
        RingPurses x = Check.of(FOUR);
        due("tell(4, 0)", x.tell(4, 0), -1);
        due("tell(-1, 0)", x.tell(-1, 0), -1);
        due("tell(0, -1)", x.tell(0, -1), -1);
        due("tell(0, 10000)", x.tell(0, 10000), -1);
        due("nothing happens", x.count(11), 0);
        for (int i = 0; i < 20; i++) due("tell " + i, x.tell(i % 4, i % 2 * 9999), i);
        due("a twenty-first", x.tell(0, 0), -1);
        due("20 are told", x.count(11), 20);
        due("tell without houses", new RingPurses().tell(0, 0), -1);
    }

    private static void forget() {
        RingPurses x = Check.of("house a 0;house b 0;house c 0;");
        due("forget nothing", x.forget(), 0);
        x.tell(0, 1);
        x.tell(0, 2);
        due("fits", x.fits(1, 2), 0);
        due("forget", x.forget(), 2);
        due("told", x.count(11), 0);
        due("known no more", x.fits(1, 2), -1);
        due("tell again", x.tell(0, 1), 0);
        due("fits again", x.fits(1, 1), 2);
    }

    private static void fits() {
        RingPurses x = Check.of("house a 0;house b 0;house c 9;earns=5;");
        x.hide(2, 9);
        x.tell(0, 1);
        x.tell(0, 2);
        x.tell(0, 0);
        due("nothing known", x.fits(1, 0), 8);
        due("one known", x.fits(1, 1), 2);
        due("the last known of a house", x.fits(1, 2), 0);
        due("the last known then", x.fits(1, 3), 6);
        due("k 4", x.fits(1, 4), -1);
        due("k -1", x.fits(1, -1), -1);
        due("most 0", x.fits(0, 0), -1);
        due("most 21", x.fits(21, 0), -1);
        due("most 20", x.fits(20, 0), 9261);
        due("nothing happens", x.count(7), 9);
        x.tell(2, 5);
        x.burn(2);
        due("of those that there are", x.fits(1, 4), 4);

        x = Check.of("house a 0;house b 0;turns;pays=left;");
        x.tell(1, 0);
        due("by turns", x.fits(1, 1), 4);
        x = Check.of("house a 0;house b 0;pays=left;");
        x.tell(1, 0);
        due("at once", x.fits(1, 1), 3);
        x = Check.of("house a 3;house b 3;pays=if day<1 then 2 else pot/4;shared alike 30;");
        x.run(1);
        x.tell(0, 1);
        due("the pot and the evening as now", x.fits(2, 1), 6);
        x = Check.of("house a 0;house b 0;house c 0;house d 0;");
        due("not too many", x.fits(20, 0), 194481);
        x.build(0, 0);
        due("too many", x.fits(20, 0), -2);
        due("not too many of five", x.fits(10, 0), 161051);
        due("too many of five", x.fits(11, 0), -2);
        due("NONE first", x.fits(20, 1), -1);
        due("without houses", new RingPurses().fits(20, 0), 1);
    }

    private static void span() {
        RingPurses x = Check.of("house a 0;house b 0;house c 0;");
        x.tell(0, 2);
        x.tell(0, 9999);
        due("nothing known", x.span(20, 0, 2), 20);
        due("known", x.span(3, 1, 0), 203);
        due("of a neighbour", x.span(3, 1, 1), 3);
        due("of the one", x.span(2, 1, 0), 202);
        due("none fits", x.span(1, 1, 0), -2);
        due("none fits", x.span(20, 2, 0), -2);
        due("house 3", x.span(3, 1, 3), -1);
        due("house -1", x.span(3, 1, -1), -1);
        due("k 3", x.span(3, 3, 0), -1);
        due("k -1", x.span(3, -1, 0), -1);
        due("most 0", x.span(0, 1, 0), -1);
        due("most 21", x.span(21, 1, 0), -1);
        x = Check.of(TEN);
        due("too many", x.span(3, 0, 9), -2);
        due("not too many", x.span(2, 0, 9), 2);
        due("NONE first", x.span(3, 0, 10), -1);
    }

    private static void ago() {
        due("all are alike", Check.of("house a 1;house b 1;").ago(3), 1);
        RingPurses x = Check.of("house a 2;pays=own/2;earns=3;shared alike 1;");
        int[] want = {0, 0, 1, 2, 2};
        for (int most = 1; most <= want.length; most++) due("ago(" + most + ")", x.ago(most), want[most - 1]);
        due("nothing happens", x.house(0, 0), 2);
        due("ago(0)", x.ago(0), -1);
        due("ago(21)", x.ago(21), -1);
        due("ago(-1)", x.ago(-1), -1);
        x = Check.of("house a 9;pays=day;shared alike 30;");
        x.run(2);
        due("the evening as now", x.ago(10), 1);
        due("not so rich", x.ago(9), 0);
        x.hide(0, 8);
        due("nothing was hidden", x.ago(10), 1);
        due("more than all", Check.of("house a 21;pays=0;").ago(20), 0);
        x = Check.of("house a 0;house b 0;pays=left;turns;");
        // a pays all if b has as much, and then b pays nothing
        due("by turns", x.ago(1), 1);
        due("too many", Check.of(TEN).ago(3), -2);
        due("not too many", Check.of(TEN).ago(2) >= 1, true);
        due("NONE first", Check.of(TEN).ago(21), -1);
        due("without houses", new RingPurses().ago(20), 1);
    }

    private static void hold() {
        RingPurses x = Check.of(FOUR);
        due("hold(-1)", x.hold(-1), false);
        due("hold(3)", x.hold(3), false);
        due("hold(least)", x.hold(LEAST), false);
        due("none holds", x.count(12), 0);
        due("hold(0)", x.hold(0), true);
        due("hold(2)", x.hold(2), true);
        due("hold(2) again", x.hold(2), true);
        due("two hold", x.count(12), 2);
        due("hold(1) of no houses", new RingPurses().hold(1), true);
    }

    private static void restore() {
        RingPurses x = Check.of(FOUR);
        x.run(3);
        x.hide(0, 2);
        x.hold(1);
        x.tell(0, 5);
        x.run(1);
        x.burn(1);
        Check.feed(x, "turns;");
        due("restore(-1)", x.restore(-1), false);
        due("restore(3)", x.restore(3), false);
        due("restore(0) of nothing", x.restore(0), false);
        due("nothing happens", x.count(10), 4);
        due("restore(1)", x.restore(1), true);
        purses("restored", x, 9, 0, 6, 0);
        due("what is hidden", x.house(0, 1), 2);
        due("what it paid", x.house(1, 5), 3);
        due("what it paid since", x.house(1, 6), 3);
        due("the pot", x.count(5), 7);
        due("the evening", x.count(6), 3);
        due("how often it was shared", x.count(8), 1);
        due("nothing can be undone", x.undo(), false);
        due("what was told stays", x.count(11), 1);
        due("the tape stays", x.count(9), 6);
        x.burn(0);
        x.burn(0);
        due("it stays in the slot", x.restore(1), true);
        purses("restored again", x, 9, 0, 6, 0);
        x.hold(2);
        x.run(9);
        x.hold(1);
        due("restore(2)", x.restore(2), true);
        due("the evening of 2", x.count(6), 3);
        due("restore(1) of later", x.restore(1), true);
        due("the evening of 1", x.count(6), 12);
    }

    private static void count() {
        RingPurses x = Check.of("street;turns;house a 9;house b 2;house c 5;shared round 2;pays=1;");
        x.run(5);
        x.hide(0, 1);
        x.tell(1, 1);
        x.hold(0);
        Check.feed(x, "abc");
        int[] want = {3, 1, 1, 2, 2, 3, 5, 13, 2, 3, 2, 1, 1};
        for (int what = 0; what < want.length; what++) due("count(" + what + ")", x.count(what), want[what]);
        for (int what : new int[] {-1, 13, LEAST, GREATEST}) due("count(" + what + ")", x.count(what), -1);
        due("shared most", Check.of("shared most 2;").count(3), 1);
    }
}
