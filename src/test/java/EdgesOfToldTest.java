/**
 * The edges that part IV of the terms and promises 26 to 33 name, each at the case itself and at its neighbours.
 * The sentence of the document that a test is for stands above it.
 */
final class EdgesOfToldTest {
    private static final int LEAST = Integer.MIN_VALUE;
    private static final int GREATEST = Integer.MAX_VALUE;

    public static void main(String[] args) {
        tellsOfAHouse();
        twentyTold();
        forgetting();
        knownByTheFirst();
        theLastKnownOne();
        rowsOfPurses();
        rowsThatAreTooMany();
        fitBounds();
        fitAsAllIsNow();
        fitOfEachHouse();
        fitOfThoseThatAre();
        fitByTurnsAndAtOnce();
        spanBounds();
        spanOfAHouse();
        agoBounds();
        agoOfPurses();
        agoOfTen();
        agoAsAllIsNow();
        holding();
        goingOn();
        whatASlotHolds();
        counts();
        noneAheadOfMinusTwo();
        Check.end();
    }

    private static void due(String call, long got, long want) {
        Check.due(call, got, want);
    }

    private static void due(String call, boolean got, boolean want) {
        Check.due(call, got, want);
    }

    private static RingPurses zeros(int n, String rest) {
        return Check.of(Check.houses(new int[n]) + rest);
    }

    // ---- what is TOLD

    /** "what a HOUSE paid one evening (0 .. 9999"; "NONE, and nothing happens: ... no such ones". */
    private static void tellsOfAHouse() {
        RingPurses x = zeros(3, "");
        for (int pay : new int[] {LEAST, -2, -1, 10000, 10001, GREATEST}) due("tell(0, " + pay + ")", x.tell(0, pay), -1);
        for (int house : new int[] {LEAST, -2, -1, 3, 4, 10, GREATEST}) due("tell(" + house + ", 0)", x.tell(house, 0), -1);
        due("nothing happens", x.count(11), 0);
        int number = 0;
        for (int pay : new int[] {0, 1, 9998, 9999}) {
            for (int house = 0; house < 3; house++) due("tell(" + house + ", " + pay + ")", x.tell(house, pay), number++);
        }
        due("TOLD ones", x.count(11), 12);
        due("without HOUSES", new RingPurses().tell(0, 0), -1);
        RingPurses y = zeros(1, "");
        due("of one to come", y.tell(1, 0), -1);
        y.build(1, 0);
        due("of one that has come", y.tell(1, 0), 0);
        y.burn(0);
        due("of one that is gone", y.tell(1, 0), -1);
    }

    /** "20 at most, numbered from 0 on"; "NONE, and nothing happens: 20 are there". */
    private static void twentyTold() {
        RingPurses x = zeros(1, "pays=own;");
        for (int i = 0; i < 20; i++) {
            due("TOLD ones", x.count(11), i);
            due("k of so many and one more", x.fits(20, i + 1), -1);
            due("tell " + i, x.tell(0, i), i);
            due("the last KNOWN one", x.span(20, i + 1, 0), 101 * i);
        }
        for (int i = 0; i < 3; i++) {
            due("a twenty-first", x.tell(0, 20), -1);
            due("20 it is", x.count(11), 20);
        }
        due("the twentieth stays", x.span(20, 20, 0), 1919);
        due("k 21", x.fits(20, 21), -1);
        due("forget", x.forget(), 20);
        due("tell again", x.tell(0, 7), 0);
        due("k 1", x.span(20, 1, 0), 707);
        due("k 2", x.fits(20, 2), -1);
    }

    /** "All that was TOLD is forgotten: how many there were." */
    private static void forgetting() {
        due("of a new object", new RingPurses().forget(), 0);
        for (int n : new int[] {0, 1, 2, 19, 20}) {
            RingPurses x = zeros(2, "");
            for (int i = 0; i < n; i++) x.tell(i % 2, i);
            due("forget " + n, x.forget(), n);
            due("TOLD ones", x.count(11), 0);
            due("forget none", x.forget(), 0);
            due("k 0", x.fits(1, 0), 4);
            due("k 1", x.fits(1, 1), -1);
        }
    }

    /** "KNOWN by k: the first k." */
    private static void knownByTheFirst() {
        RingPurses x = zeros(3, "pays=own;");
        x.tell(0, 1);
        x.tell(1, 2);
        x.tell(2, 3);
        int[] want = {64, 16, 4, 1};
        for (int k = 0; k <= 3; k++) due("fits(3, " + k + ")", x.fits(3, k), want[k]);
        for (int k : new int[] {LEAST, -2, -1, 4, 5, 20, 21, GREATEST}) {
            due("fits(3, " + k + ")", x.fits(3, k), -1);
            due("span(3, " + k + ", 0)", x.span(3, k, 0), -1);
        }
        due("a row that does not reach as far", x.fits(2, 3), 0);
        due("none known of a new object", new RingPurses().fits(1, 0), 1);
        due("one known of a new object", new RingPurses().fits(1, 1), -1);
    }

    /** "of one HOUSE the last KNOWN one". */
    private static void theLastKnownOne() {
        RingPurses x = zeros(2, "pays=own;");
        x.tell(0, 1);
        x.tell(1, 4);
        x.tell(0, 2);
        x.tell(0, 9999);
        x.tell(0, 3);
        int[] want = {25, 5, 1, 1, 0, 1};
        int[] span = {4, 101, 101, 202, -2, 303};
        for (int k = 0; k <= 5; k++) {
            due("fits(4, " + k + ")", x.fits(4, k), want[k]);
            due("span(4, " + k + ", 0)", x.span(4, k, 0), span[k]);
        }
    }

    // ---- FIT and SPAN

    /** "PURSES from 0 to a most (1 .. 20) of as many HOUSES as there are now". */
    private static void rowsOfPurses() {
        for (int n = 0; n <= 4; n++) {
            RingPurses x = zeros(n, "");
            int[] mosts = {1, 2, 3, 19, 20};
            for (int most : mosts) {
                int rows = 1;
                for (int i = 0; i < n; i++) rows *= most + 1;
                due("rows of " + n + " to " + most, x.fits(most, 0), rows);
            }
            for (int most : new int[] {LEAST, -2, -1, 0, 21, 22, GREATEST}) due("fits(" + most + ", 0)", x.fits(most, 0), -1);
        }
        RingPurses x = zeros(2, "pays=own;");
        x.tell(1, 0);
        x.tell(1, 19);
        x.tell(1, 20);
        x.tell(1, 21);
        due("0 is among them", x.fits(20, 1), 21);
        due("one less than most is", x.fits(20, 2), 21);
        due("most is", x.fits(20, 3), 21);
        due("one more is not", x.fits(20, 4), 0);
        due("to 19: 19", x.fits(19, 2), 20);
        due("to 19: 20", x.fits(19, 3), 0);
    }

    /** "(told if there are no more than 200000 rows of them, else -2)". */
    private static void rowsThatAreTooMany() {
        // the greatest most that is not too many for so many HOUSES, and its rows
        int[] most = {20, 20, 20, 20, 20, 10, 6, 4, 3, 2, 2};
        int[] rows = {1, 21, 441, 9261, 194481, 161051, 117649, 78125, 65536, 19683, 59049};
        for (int n = 0; n <= 10; n++) {
            RingPurses x = zeros(n, "");
            due("fits of " + n + " to " + most[n], x.fits(most[n], 0), rows[n]);
            if (n > 0) due("span of " + n + " to " + most[n], x.span(most[n], 0, n - 1), most[n]);
            due("ago of " + n + " to " + most[n], x.ago(most[n]) >= 1, true);
            for (int more = most[n] + 1; more <= 20; more++) {
                due("fits of " + n + " to " + more, x.fits(more, 0), -2);
                due("span of " + n + " to " + more, x.span(more, 0, 0), -2);
                due("ago of " + n + " to " + more, x.ago(more), -2);
            }
            due("ago of " + n + " to 21", x.ago(21), -1);
        }
        RingPurses x = zeros(4, "");
        x.build(4, 0);
        due("of HOUSES as there are now", x.fits(20, 0), -2);
        x.burn(0);
        due("of HOUSES as there are now", x.fits(20, 0), 194481);
        x = Check.of(Check.houses(9999, 9999, 9999, 9999, 9999));
        due("too many, though none would do", x.ago(20), -2);
    }

    private static void fitBounds() {
        RingPurses x = zeros(2, "pays=own;");
        x.tell(0, 0);
        for (int k = -1; k <= 2; k++) {
            for (int most : new int[] {LEAST, -1, 0, 1, 20, 21, GREATEST}) {
                boolean fine = k >= 0 && k <= 1 && most >= 1 && most <= 20;
                int rows = k == 1 ? most + 1 : (most + 1) * (most + 1);
                due("fits(" + most + ", " + k + ")", x.fits(most, k), fine ? rows : -1);
                due("span(" + most + ", " + k + ", 1)", x.span(most, k, 1), fine ? most : -1);
            }
        }
    }

    /** "nothing hidden, the POT and the evening as now", "EARNS not looked at". */
    private static void fitAsAllIsNow() {
        RingPurses x = Check.of(Check.houses(20, 20) + "pays=if day<1 then 3 else own-pot+day;earns=9;shared alike 30;");
        x.tell(0, 3);
        x.tell(0, 4);
        due("evening 0: 3 of 3 and more", x.fits(9, 1), 7 * 10);
        due("evening 0: never 4", x.fits(9, 2), 0);
        x.run(1);
        // the POT is 6: own less 5
        due("evening 1: 3 of 8", x.span(9, 1, 0), 808);
        due("evening 1: 4 of 9", x.span(9, 2, 0), 909);
        x.hide(0, 15);
        x.hide(1, 1);
        due("nothing hidden in a row", x.span(9, 1, 0), 808);
        x.grab(0);
        // own and 1 more: no one can pay that, so all it has
        due("the POT as now", x.span(9, 1, 0), 303);
        due("nothing happens", x.house(0, 1), 15);
        // WANTED is held to what it has
        x = zeros(1, "pays=7;");
        x.tell(0, 5);
        x.tell(0, 7);
        x.tell(0, 8);
        due("no more than it has", x.span(20, 1, 0), 505);
        due("as told", x.span(20, 2, 0), 720);
        due("never more", x.span(20, 3, 0), -2);
    }

    /** The same of each HOUSE, to the last one of ten. */
    private static void fitOfEachHouse() {
        for (int n = 1; n <= 10; n++) {
            int most = n <= 4 ? 4 : 2;
            for (int i = 0; i < n; i++) {
                int[] purses = new int[n];
                java.util.Arrays.fill(purses, 30);
                RingPurses x = Check.of(Check.houses(purses) + "pays=own;earns=7;");
                for (int j = 0; j < n; j++) x.hide(j, 30);
                x.tell(i, 2);
                int rows = 1;
                for (int j = 1; j < n; j++) rows *= most + 1;
                due("fits of " + n + ", " + i + " KNOWN", x.fits(most, 1), rows);
                for (int j = 0; j < n; j++) due("span of " + j, x.span(most, 1, j), j == i ? 202 : most);
            }
        }
    }

    /** "all that there are now pay what is KNOWN". */
    private static void fitOfThoseThatAre() {
        RingPurses x = zeros(3, "pays=own;");
        x.tell(2, 1);
        x.tell(1, 2);
        x.tell(2, 9999);
        due("of three", x.fits(3, 2), 4);
        due("of three, never", x.fits(3, 3), 0);
        x.burn(2);
        due("of two", x.fits(3, 3), 4);
        due("of the one that is KNOWN", x.span(3, 3, 1), 202);
        due("of the one that is not", x.span(3, 3, 0), 3);
        x.burn(1);
        due("of one", x.fits(3, 3), 4);
        x.burn(0);
        due("of none", x.fits(3, 3), 1);
        x.build(0, 5);
        x.build(1, 5);
        due("of two again", x.fits(3, 2), 4);
        due("how many are TOLD", x.count(11), 3);
    }

    private static void fitByTurnsAndAtOnce() {
        RingPurses x = zeros(2, "pays=left;");
        x.tell(0, 1);
        x.tell(1, 1);
        // of 0 and 1: both have 1, or more
        due("at once", x.fits(2, 2), 3);
        x = zeros(2, "turns;pays=left;");
        x.tell(0, 1);
        x.tell(1, 1);
        // 0 pays 1 and has 1 left, which 1 pays
        due("by turns", x.fits(2, 2), 1);
        due("by turns: 0 has", x.span(2, 2, 0), 202);
        due("by turns: 1 has", x.span(2, 2, 1), 101);
        fitsOfOne("pays=left;", 9, 9, 9);
        fitsOfOne("turns;pays=left;", 9, 5, 8);
        fitsOfOne("pays=right;", 9, 9, 9);
        fitsOfOne("turns;pays=right;", 9, 9, 5);
        x = zeros(3, "turns;pays=pot;");
        x.tell(2, 0);
        due("an empty POT stays", x.fits(1, 1), 8);
        x = zeros(3, "turns;pays=if pot<1 then own else 0;");
        x.tell(2, 2);
        // the POT as now for each row: those ahead of 2 have nothing, known or not
        due("the POT of who pays ahead", x.fits(3, 1), 1);
        due("2 has", x.span(3, 1, 2), 202);
        due("0 has", x.span(3, 1, 0), 0);
        x.tell(2, 0);
        due("one of those ahead has something, or it has nothing", x.fits(3, 2), 64 - 3);
        x.tell(0, 3);
        x.tell(1, 0);
        due("0 has 3, the others whatever", x.fits(3, 4), 16);
    }

    /** Of three HOUSES with 0 to 2: of which just one is KNOWN to pay 1. */
    private static void fitsOfOne(String rules, int... want) {
        for (int i = 0; i < 3; i++) {
            RingPurses x = zeros(3, rules);
            x.tell(i, 1);
            due("1 paid by " + i + " of " + rules, x.fits(2, 1), want[i]);
        }
    }

    /** "100 * the least + the greatest; -2: too many, none; NONE: no such ones." */
    private static void spanBounds() {
        RingPurses x = zeros(3, "pays=own;");
        x.tell(0, 0);
        x.tell(0, 20);
        x.tell(0, 9999);
        due("of all", x.span(20, 0, 0), 20);
        due("of all to 1", x.span(1, 0, 0), 1);
        due("of 0", x.span(20, 1, 0), 0);
        due("of 20", x.span(20, 2, 0), 2020);
        due("of none", x.span(20, 3, 0), -2);
        due("of none, another HOUSE", x.span(20, 3, 2), -2);
        for (int house : new int[] {LEAST, -2, -1, 3, 4, 10, GREATEST}) {
            for (int k = 0; k <= 3; k++) due("span(20, " + k + ", " + house + ")", x.span(20, k, house), -1);
        }
        due("without HOUSES", new RingPurses().span(20, 0, 0), -1);
    }

    private static void spanOfAHouse() {
        RingPurses x = zeros(3, "");
        x.tell(0, 3);
        // 1 and 2 are 3 apart
        due("the least to 3", x.span(3, 1, 1), 3);
        due("which have 0 and 3", x.fits(3, 1), 2);
        due("of itself", x.span(3, 1, 0), 303);
        due("to 4", x.span(4, 1, 0), 304);
        x = zeros(10, "pays=own;");
        for (int i = 0; i < 10; i++) x.tell(i, i % 3);
        for (int i = 0; i < 10; i++) due("the only row", x.span(2, 10, i), 101 * (i % 3));
        due("the only row", x.fits(2, 10), 1);
        due("the last one not KNOWN", x.span(2, 9, 9), 2);
    }

    // ---- AGO

    /** "AGO: how many rows; -2: too many; NONE: no such most." */
    private static void agoBounds() {
        RingPurses x = Check.of(Check.houses(3, 3) + "pays=0;");
        for (int most : new int[] {LEAST, -2, -1, 0, 21, 22, GREATEST}) due("ago(" + most + ")", x.ago(most), -1);
        for (int most : new int[] {1, 2}) due("ago(" + most + ")", x.ago(most), 0);
        for (int most : new int[] {3, 4, 19, 20}) due("ago(" + most + ")", x.ago(most), 1);
        due("without HOUSES", new RingPurses().ago(20), 1);
        due("without HOUSES", new RingPurses().ago(0), -1);
    }

    /** "leaves just the PURSES that are now". */
    private static void agoOfPurses() {
        RingPurses x = Check.of(Check.houses(0) + "pays=own/3;");
        // 0 stays 0; 1 and 2 pay nothing
        due("of 0", x.ago(20), 1);
        x = Check.of(Check.houses(14) + "pays=own/3;");
        // 20 leaves 14
        due("of 14 to 19", x.ago(19), 0);
        due("of 14 to 20", x.ago(20), 1);
        x = Check.of(Check.houses(20) + "pays=0;");
        due("of 20 to 19", x.ago(19), 0);
        due("of 20 to 20", x.ago(20), 1);
        x = Check.of(Check.houses(21) + "pays=0;");
        due("of 21 to 20", x.ago(20), 0);
        x = Check.of(Check.houses(0, 0, 0) + "pays=own;");
        due("of nothing left", x.ago(20), 9261);
        x = Check.of(Check.houses(0, 0, 1) + "pays=own;");
        due("of one left", x.ago(20), 0);
        x = Check.of(Check.houses(0, 0) + "pays=left;");
        // both have as much
        due("at once", x.ago(20), 21);
        x = Check.of("turns;" + Check.houses(0, 0) + "pays=left;");
        // what 0 has it pays first, and then 1 keeps all: but for none
        due("by turns", x.ago(20), 1);
        x = Check.of("turns;" + Check.houses(0, 1) + "pays=left;");
        due("by turns, of 1", x.ago(20), 2);
        x = Check.of("turns;" + Check.houses(0, 3, 5) + "pays=if pot<1 then own else 0;");
        // 0 had 1 .. 20; or it had nothing, and 1 would have paid all
        due("by turns, the POT as now for each row", x.ago(20), 20);
        int[][] purses = {{0, 1, 0}, {1, 0, 0}, {0, 0, 1}, {0, 0, 0}};
        int[] atOnce = {4, 4, 4, 3};
        int[] left = {3, 2, 2, 1};
        int[] right = {2, 3, 3, 1};
        for (int i = 0; i < 4; i++) {
            due("left at once: " + i, Check.of(Check.houses(purses[i]) + "pays=left;").ago(2), atOnce[i]);
            due("right at once: " + i, Check.of(Check.houses(purses[i]) + "pays=right;").ago(2), atOnce[i]);
            due("left by turns: " + i, Check.of(Check.houses(purses[i]) + "turns;pays=left;").ago(2), left[i]);
            due("right by turns: " + i, Check.of(Check.houses(purses[i]) + "turns;pays=right;").ago(2), right[i]);
        }
    }

    /** The same to the last one of ten, and in whatever order they are asked. */
    private static void agoOfTen() {
        RingPurses x = Check.of(Check.houses(0, 0, 0, 0, 0, 0, 0, 0, 0, 1) + "pays=own/2;");
        due("to 1", x.ago(1), 1);
        due("1 of 2 and 1 of 1", x.ago(2), 2);
        due("all rows", x.fits(2, 0), 59049);
        due("again", x.ago(2), 2);
        x = Check.of(Check.houses(0, 0, 0, 0, 0, 0, 0, 0, 0, 1) + "pays=own;");
        due("none keeps 1", x.ago(2), 0);
        x = Check.of(Check.houses(0, 0, 0, 0, 0, 0, 0, 0, 0, 2) + "pays=0;");
        due("2 is more than 1", x.ago(1), 0);
        due("2 is 2", x.ago(2), 1);
        due("all rows", x.fits(2, 0), 59049);
        due("the least and the greatest", x.span(2, 0, 9), 2);
        x.hide(9, 2);
        due("hidden now", x.ago(2), 1);
        for (int i = 0; i < 10; i++) {
            int[] purses = new int[10];
            purses[i] = 1;
            due("the one that has 1 is " + i, Check.of(Check.houses(purses) + "pays=own/2;").ago(2), 2);
        }
    }

    /** "not one at which the POT is shared, EARNS not looked at, nothing hidden, the POT and the evening as now". */
    private static void agoAsAllIsNow() {
        RingPurses x = Check.of(Check.houses(2) + "pays=own/2;earns=3;shared alike 1;");
        int[] want = {0, 0, 1, 2, 2};
        for (int most = 1; most <= 5; most++) due("ago(" + most + ")", x.ago(most), want[most - 1]);
        x.hide(0, 2);
        due("what is hidden now does not matter", x.ago(5), 2);
        x.run(1);
        due("nothing has happened", x.house(0, 0), 5);
        x = Check.of(Check.houses(9, 9) + "pays=if day<2 then 3 else pot;shared alike 30;");
        due("the evening as now", x.ago(12), 1);
        due("to 11", x.ago(11), 0);
        x.run(2);
        // each has 3 now, and the POT 12
        due("the POT as now, to 14", x.ago(14), 0);
        due("to 15", x.ago(15), 1);
        x.grab(0);
        due("an empty POT", x.ago(20), 1);
        due("PURSES as now", x.house(0, 0), 15);
    }

    // ---- SLOTS

    /** "held in a SLOT (0 .. 2): true; false: no such one." */
    private static void holding() {
        for (RingPurses x : new RingPurses[] {new RingPurses(), Check.of(Check.houses(4, 5))}) {
            for (int slot : new int[] {LEAST, -2, -1, 3, 4, GREATEST}) {
                due("hold(" + slot + ")", x.hold(slot), false);
                due("restore(" + slot + ")", x.restore(slot), false);
            }
            due("SLOTS that hold something", x.count(12), 0);
            for (int slot = 0; slot <= 2; slot++) {
                due("restore(" + slot + ") of nothing", x.restore(slot), false);
                due("hold(" + slot + ")", x.hold(slot), true);
                due("SLOTS that hold something", x.count(12), slot + 1);
                due("hold(" + slot + ") again", x.hold(slot), true);
                due("SLOTS that hold something", x.count(12), slot + 1);
                due("restore(" + slot + ")", x.restore(slot), true);
            }
            due("hold is no thing done", x.count(10), 0);
            x.read();
            due("SLOTS behind a text", x.count(12), 0);
            for (int slot = 0; slot <= 2; slot++) due("restore(" + slot + ") behind a text", x.restore(slot), false);
        }
        RingPurses x = Check.of(Check.houses(4, 5));
        x.hold(2);
        due("just one", x.count(12), 1);
        due("restore(0)", x.restore(0), false);
        due("restore(1)", x.restore(1), false);
        due("restore(2)", x.restore(2), true);
    }

    /** "They go on from what a SLOT holds (that stays there; nothing can be undone then)". */
    private static void goingOn() {
        RingPurses x = Check.of(Check.houses(90, 5, 7));
        for (int slot = 0; slot <= 2; slot++) {
            x.run(1);
            x.hold(slot);
        }
        x.run(1);
        int[] order = {1, 0, 2, 2, 0, 1};
        for (int slot : order) {
            due("restore(" + slot + ")", x.restore(slot), true);
            due("the evening", x.count(6), slot + 1);
            due("things that can be undone", x.count(10), 0);
            due("undo", x.undo(), false);
            x.run(1);
            x.burn(0);
            due("things done behind it", x.count(10), 2);
            due("undo", x.undo(), true);
            due("undo", x.undo(), true);
            due("undo of what was ahead of it", x.undo(), false);
            due("the evening", x.count(6), slot + 1);
            x.burn(0);
            x.grab(0);
        }
        due("restore(3)", x.restore(3), false);
        due("nothing happens", x.count(10), 2);
        due("SLOTS that hold something", x.count(12), 3);
        due("undo is still there", x.undo(), true);
    }

    /** "HOUSES, what they have, hide and paid, the POT, the evening are held". */
    private static void whatASlotHolds() {
        RingPurses x = Check.of(Check.houses(90, 5, 7) + "pays=gap/2+1;earns=2;shared round 2;");
        x.run(3);
        x.hide(1, 2);
        String held = Whole.now(x).replaceFirst("( \\d+){4}; house 0", "; house 0");
        x.hold(0);
        x.run(5);
        x.build(3, 8);
        x.burn(0);
        x.join(0);
        x.hide(0, 0);
        x.tell(0, 5);
        x.restore(0);
        due("all that HOUSES have is back", Whole.now(x).replaceFirst("( \\d+){4}; house 0", "; house 0").equals(held), true);
        due("what was TOLD is not held", x.count(11), 1);
        RingPurses none = Check.of(Check.houses(4));
        none.hold(1);
        none.burn(0);
        none.hold(0);
        none.restore(1);
        due("one HOUSE", none.count(0), 1);
        none.restore(0);
        due("no HOUSES are held, too", none.count(0), 0);
        due("that is something", none.count(12), 2);
    }

    /** "NONE for others." */
    private static void counts() {
        RingPurses x = Check.of("street;turns;" + Check.houses(9, 2, 5) + "shared round 2;pays=1;");
        x.run(5);
        x.hide(0, 1);
        x.tell(1, 1);
        x.hold(0);
        Check.feed(x, "abcd");
        int[] want = {3, 1, 1, 2, 2, 3, 5, 13, 2, 4, 2, 1, 1};
        for (int what = 0; what <= 12; what++) due("count(" + what + ")", x.count(what), want[what]);
        for (int what : new int[] {LEAST, -2, -1, 13, 14, GREATEST}) due("count(" + what + ")", x.count(what), -1);
        due("without HOUSES: what they have", new RingPurses().count(7), 0);
    }

    /** "Where NONE and -2 could both be told, it is NONE, if it is not told otherwise." */
    private static void noneAheadOfMinusTwo() {
        RingPurses x = Check.of(Check.houses(9, 9, 9, 9, 9, 9, 9, 9, 9, 0) + "pays=0;earns=1;");
        due("becomes of none", x.becomes(0), -2);
        due("becomes of others", x.becomes(2), -1);
        due("even not", x.even(8, 0), -2);
        due("even not, below 0", x.even(-1, 0), -1);
        due("even not, by others", x.even(8, 3), -1);
        due("soonest by none", x.soonest(8), -2);
        due("soonest below 0", x.soonest(-1), -1);
        due("site with 10", x.site(0), -2);
        due("site of no PURSE", x.site(-1), -1);
        due("rests of 10", x.rests(1, -1), -2);
        due("rests of no unit", x.rests(0, -1), -1);
        due("rests of no number", x.rests(1, -2), -1);
        due("fits, too many", x.fits(20, 0), -2);
        due("fits to 21", x.fits(21, 0), -1);
        due("fits, not KNOWN", x.fits(20, 1), -1);
        due("span, too many", x.span(20, 0, 9), -2);
        due("span to 0", x.span(0, 0, 9), -1);
        due("span, not KNOWN", x.span(20, 1, 9), -1);
        due("span of no HOUSE", x.span(20, 0, 10), -1);
        due("ago, too many", x.ago(20), -2);
        due("ago to 21", x.ago(21), -1);
        due("best, to nobody", x.best(0, 1, 1, 1), -2);
        due("best over 31", x.best(0, 1, 31, 1), -1);
        due("free, none needed", x.free(0, 1), -2);
        due("free, what 2", x.free(0, 2), -1);
        RingPurses alone = Check.of(Check.houses(5) + "pays=1;");
        due("free, none", alone.free(0, 0), -2);
        due("free, none of no HOUSE", alone.free(1, 0), -1);
        RingPurses never = zeros(1, "pays=own;");
        never.tell(0, 9);
        due("span of none", never.span(5, 1, 0), -2);
        due("span of none and no HOUSE", never.span(5, 1, 1), -1);
    }
}
