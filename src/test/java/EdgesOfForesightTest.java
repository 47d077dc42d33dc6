/**
 * The edges that part III of the terms and promises 15 to 25 name, each at the case itself and at its neighbours.
 * The sentence of the document that a test is for stands above it.
 */
final class EdgesOfForesightTest {
    private static final int LEAST = Integer.MIN_VALUE;
    private static final int GREATEST = Integer.MAX_VALUE;
    private static final int NO_DEAL = -1000000;

    public static void main(String[] args) {
        becomesOfWhat();
        becomesWithin300();
        becomesTheLeast();
        becomesOfAll();
        apartOfAll();
        apartAsShared();
        apartBehindSoMany();
        evenWithin300();
        evenForTheFirstTime();
        evenByHow();
        soonestOfTheThree();
        soonestByNone();
        startOfWhich();
        startOnceAround();
        startOfAlikeOnes();
        wealthBounds();
        wealthThisEvening();
        freeBounds();
        freeOfShown();
        freeOf2000();
        freeToTheLeast();
        bestBounds();
        bestOfUnits();
        bestAsShown();
        bestOfAlikeOnes();
        bestOverEvenings();
        bestOfEachHouse();
        loanBounds();
        loanGivenBack();
        loanRates();
        siteBounds();
        sitePlaces();
        restsBounds();
        restsOfHouses();
        restsOfWhatItHas();
        restsOfMore();
        restsOfTwo();
        Check.end();
    }

    private static void due(String call, long got, long want) {
        Check.due(call, got, want);
    }

    private static String alike(int n, int purse) {
        int[] purses = new int[n];
        for (int i = 0; i < n; i++) purses[i] = purse;
        return Check.houses(purses);
    }

    // ---- BECOMES

    private static void becomesIs(String text, int p, int s) {
        RingPurses x = Check.of(text);
        due("p of " + text, x.becomes(0), p);
        due("s of " + text, x.becomes(1), s);
    }

    /** "what 0 p, 1 s; -2: not so soon; NONE for others." */
    private static void becomesOfWhat() {
        RingPurses x = Check.of(Check.houses(7) + "pays=0;earns=if day<3 then 1 else 0;");
        due("becomes(0)", x.becomes(0), 1);
        due("becomes(1)", x.becomes(1), 3);
        RingPurses never = Check.of(Check.houses(7) + "pays=0;earns=1;");
        due("becomes(0) of none", never.becomes(0), -2);
        due("becomes(1) of none", never.becomes(1), -2);
        for (int what : new int[] {LEAST, -2, -1, 2, 3, GREATEST}) {
            due("becomes(" + what + ")", x.becomes(what), -1);
            due("becomes(" + what + ") of none", never.becomes(what), -1);
        }
    }

    /** "told if s + p is 300 at most". */
    private static void becomesWithin300() {
        for (int s : new int[] {0, 1, 2, 298, 299}) becomesIs(Check.houses(7) + "pays=0;earns=if day<" + s + " then 1 else 0;", 1, s);
        for (int s : new int[] {300, 301, 400}) becomesIs(Check.houses(7) + "pays=0;earns=if day<" + s + " then 1 else 0;", -2, -2);
        String ten = alike(10, 900) + "pays=1;shared round 30;";
        becomesIs(ten, 300, 0);
        becomesIs(ten + "earns=if day<1 then 1 else 0;", -2, -2);
        String nine = alike(9, 900) + "pays=1;shared round 30;";
        becomesIs(nine, 270, 0);
        becomesIs(nine + "earns=if day<29 then 1 else 0;", 270, 29);
        becomesIs(nine + "earns=if day<30 then 1 else 0;", 270, 30);
        becomesIs(nine + "earns=if day<31 then 1 else 0;", -2, -2);
        RingPurses x = Check.of(Check.houses(7) + "pays=0;earns=if day<310 then 1 else 0;");
        x.run(10);
        due("from now on, 300 ahead", x.becomes(1), -2);
        x.run(1);
        due("299 ahead", x.becomes(1), 299);
        x.run(299);
        due("none ahead", x.becomes(1), 0);
    }

    /** "the least p (and then the least s)". */
    private static void becomesTheLeast() {
        becomesIs("", 1, 0);
        becomesIs(Check.houses(7) + "pays=0;", 1, 0);
        becomesIs(Check.houses(7) + "pays=own;shared alike 1;", 1, 0);
        becomesIs(Check.houses(7) + "pays=own;shared alike 2;", 2, 0);
        // behind the first evening the POT holds all, and so behind the second
        becomesIs(Check.houses(7) + "pays=own;shared alike 3;", 1, 1);
        becomesIs(Check.houses(900) + "pays=1;shared alike 3;", 3, 0);
        becomesIs(Check.houses(900) + "pays=1;shared alike 30;", 30, 0);
        becomesIs(alike(2, 900) + "pays=1;shared round 1;", 2, 0);
        becomesIs(alike(10, 900) + "pays=1;shared round 1;", 10, 0);
        // a round of 2 from the start, and a rest behind 5 evenings
        becomesIs(Check.houses(7) + "pays=if day<6 then own else 0;shared alike 2;", 1, 6);
        becomesIs(Check.houses(900) + "pays=if day<5 then 1 else if day<9 then 2 else 0;shared alike 30;", 1, 9);
    }

    /** "all PURSES, what is hidden, and the POT are alike". */
    private static void becomesOfAll() {
        String grow = "pays=0;earns=if own<50 then 1 else 0;";
        for (int i = 0; i < 10; i++) {
            int[] purses = {50, 50, 50, 50, 50, 50, 50, 50, 50, 50};
            purses[i] = 45;
            becomesIs(Check.houses(purses) + grow, 1, 5);
        }
        // the PURSE stays for 29 evenings, the POT does not
        becomesIs(Check.houses(5) + "earns=1;pays=1;shared alike 30;", -2, -2);
        // the POT stays, the PURSES do not
        becomesIs(Check.houses(5, 5) + "pays=0;earns=1;", -2, -2);
        RingPurses x = Check.of(Check.houses(7) + "pays=own;shared alike 2;");
        x.hide(0, 7);
        due("all hidden, it rests", x.becomes(0), 1);
        x.hide(0, 6);
        due("what is hidden stays so", x.becomes(0), 2);
        x.run(1);
        due("from between", x.becomes(1), 0);
        x = Check.of(alike(9, 50) + Check.houses(7).replace(" a ", " z ") + "pays=0;earns=if own<50 then 1 else 0;");
        due("of ten", x.becomes(1), 43);
        x.burn(9);
        due("of nine: who is gone is not looked at", x.becomes(1), 0);
        for (int i = 0; i < 9; i++) x.burn(0);
        due("of none", x.becomes(1), 0);
    }

    // ---- APART, EVEN, SOONEST

    /** "APART: the greatest of all PURSES less the least (0 without HOUSES)." */
    private static void apartOfAll() {
        due("without HOUSES", new RingPurses().apart(0), 0);
        due("without HOUSES, later", new RingPurses().apart(300), 0);
        due("of one", Check.of(Check.houses(9999)).apart(0), 0);
        due("of two", Check.of(Check.houses(9999, 0)).apart(0), 9999);
        due("of two", Check.of(Check.houses(0, 9999)).apart(0), 9999);
        due("of alike ones", Check.of(Check.houses(5, 5, 5)).apart(0), 0);
        for (int i = 0; i < 10; i++) {
            int[] purses = {50, 50, 50, 50, 50, 50, 50, 50, 50, 50};
            purses[i] = 44;
            due("the least is " + i, Check.of(Check.houses(purses)).apart(0), 6);
            purses[i] = 57;
            due("the greatest is " + i, Check.of(Check.houses(purses)).apart(0), 7);
        }
        RingPurses x = Check.of(Check.houses(9, 3, 4) + "pays=0;");
        x.hide(0, 9);
        x.hide(1, 1);
        due("of PURSES, hidden or not", x.apart(0), 6);
        x.burn(0);
        due("of HOUSES as they stand now", x.apart(0), 1);
        x.burn(0);
        x.burn(0);
        due("of none", x.apart(1), 0);
    }

    private static void apartAsShared() {
        int[] alike = {6, 6, 6};
        int[] most = {6, 3, 3};
        int[] round = {6, 3, 6};
        String text = Check.houses(3, 9, 6) + "pays=1;shared ";
        for (int n = 0; n <= 2; n++) {
            due("alike: apart(" + n + ")", Check.of(text + "alike 1;").apart(n), alike[n]);
            due("most: apart(" + n + ")", Check.of(text + "most 1;").apart(n), most[n]);
            due("round: apart(" + n + ")", Check.of(text + "round 1;").apart(n), round[n]);
        }
    }

    private static final String CATCHES_UP = "pays=0;earns=if own<right then 1 else 0;";

    /** "APART behind n evenings (0 .. 300); NONE: no such n." */
    private static void apartBehindSoMany() {
        RingPurses x = Check.of(Check.houses(0, 400) + CATCHES_UP);
        for (int n : new int[] {0, 1, 2, 298, 299, 300}) due("apart(" + n + ")", x.apart(n), 400 - n);
        for (int n : new int[] {LEAST, -2, -1, 301, 302, GREATEST}) due("apart(" + n + ")", x.apart(n), -1);
        due("NONE without HOUSES", new RingPurses().apart(301), -1);
        x.run(1);
        due("from now on", x.apart(300), 99);
    }

    /** "behind how many evenings (0 .. 300) they are no more than so much APART"; "-2: not; NONE: no such ones". */
    private static void evenWithin300() {
        for (int apart : new int[] {0, 1, 2, 299, 300}) {
            RingPurses x = Check.of(Check.houses(0, apart) + CATCHES_UP);
            for (int how = 0; how <= 2; how++) due("even(0, " + how + ") of " + apart, x.even(0, how), apart);
        }
        for (int apart : new int[] {301, 302, 400}) {
            RingPurses x = Check.of(Check.houses(0, apart) + CATCHES_UP);
            for (int how = 0; how <= 2; how++) {
                due("even(0) of " + apart, x.even(0, how), -2);
                due("even to 300", x.even(apart - 300, how), 300);
                due("even to 301", x.even(apart - 301, how), -2);
                due("even to 299", x.even(apart - 299, how), 299);
                due("even as it is", x.even(apart, how), 0);
                due("even to one less", x.even(apart - 1, how), 1);
                due("even to one more", x.even(apart + 1, how), 0);
            }
        }
        RingPurses x = Check.of(Check.houses(0, 400) + CATCHES_UP);
        for (int d : new int[] {LEAST, -2, -1}) due("even(" + d + ")", x.even(d, 0), -1);
        due("even(greatest)", x.even(GREATEST, 2), 0);
        for (int how : new int[] {LEAST, -2, -1, 3, 4, GREATEST}) {
            due("even by " + how, x.even(400, how), -1);
            due("even by " + how + ", not", x.even(0, how), -1);
        }
        due("without HOUSES", new RingPurses().even(0, 2), 0);
        due("of one HOUSE", Check.of(Check.houses(9)).even(0, 1), 0);
    }

    /** "for the first time". */
    private static void evenForTheFirstTime() {
        // 9, 7, 6, 9, 9, 10 apart
        RingPurses x = Check.of(Check.houses(10, 4, 7, 1) + "shared alike 2;");
        int[] want = {-2, -2, -2, -2, -2, -2, 2, 1, 1, 0, 0};
        for (int d = 0; d < want.length; d++) due("even(" + d + ", 0)", x.even(d, 0), want[d]);
    }

    /** "if the POT is shared as told, or by another of the three, each so many evenings as now". */
    private static void evenByHow() {
        for (String how : new String[] {"alike", "most", "round"}) {
            // by each of the three, whichever is told
            evensAre(Check.houses(1, 3) + "pays=day;shared " + how + " 1;", 0, 4, 2, 3);
            evensAre(Check.houses(0, 4) + "pays=own/2;shared " + how + " 1;", 0, 3, -2, 1);
            evensAre(Check.houses(1, 9) + "pays=day;shared " + how + " 2;", 3, 5, 9, 7);
            evensAre(Check.houses(6, 8) + "pays=day;earns=gap;shared " + how + " 3;", 1, 5, 8, 8);
        }
        RingPurses x = Check.of(Check.houses(1, 9) + "pays=day;shared most 2;");
        due("told", x.even(3, 1), 9);
        x.run(9);
        due("as it becomes", x.apart(0) <= 3 ? 1 : 0, 1);
        due("it is shared as told still", x.count(3), 1);
    }

    private static void evensAre(String text, int d, int... want) {
        RingPurses x = Check.of(text);
        for (int how = 0; how <= 2; how++) due("even(" + d + ", " + how + ") of " + text, x.even(d, how), want[how]);
    }

    private static void soonestIs(String text, int d, int want, int... evens) {
        evensAre(text, d, evens);
        due("soonest(" + d + ") of " + text, Check.of(text).soonest(d), want);
    }

    /** "SOONEST: by which of the three that is least; of alike ones the first (alike, most, round)." */
    private static void soonestOfTheThree() {
        soonestIs(Check.houses(1, 9) + "pays=day;shared round 2;", 3, 0, 5, 9, 7);
        soonestIs(Check.houses(6, 9, 7) + "pays=day;shared most 3;", 2, 0, 5, 14, 11);
        soonestIs(Check.houses(1, 3) + "pays=day;shared alike 1;", 0, 1, 4, 2, 3);
        soonestIs(Check.houses(6, 8) + "pays=day;shared alike 1;", 1, 1, 8, 2, 3);
        soonestIs(Check.houses(9, 0) + "pays=day;shared alike 2;", 1, 2, 6, 9, 4);
        // alike ones
        soonestIs(Check.houses(5, 5) + "shared round 1;", 0, 0, 0, 0, 0);
        soonestIs(Check.houses(0, 6, 2) + "pays=day;earns=gap;shared most 1;", 2, 0, 2, 2, -2);
        soonestIs(Check.houses(0, 4) + "pays=day;shared round 2;", 3, 0, 2, 3, 2);
        soonestIs(Check.houses(1, 5) + "pays=day;shared round 2;", 2, 1, 4, 2, 2);
        soonestIs(Check.houses(0, 5, 8) + "pays=day;shared alike 3;", 3, 2, 5, 5, 4);
        soonestIs(Check.houses(6, 8) + "pays=day;earns=gap;shared alike 3;", 1, 0, 5, 8, 8);
        soonestIs(Check.houses(0, 300) + CATCHES_UP, 0, 0, 300, 300, 300);
    }

    /** "-2: by none; NONE: d below 0." */
    private static void soonestByNone() {
        soonestIs(Check.houses(8, 5, 7) + "pays=1;earns=gap;shared round 1;", 1, 0, 2, -2, -2);
        soonestIs(Check.houses(9, 3) + "pays=left/2;shared alike 1;", 2, 1, -2, 2, -2);
        soonestIs(Check.houses(5, 5, 8) + "pays=1;shared alike 1;", 0, 2, -2, -2, 2);
        soonestIs(Check.houses(4, 9) + "pays=left/2;shared alike 2;", 1, 1, -2, 2, 2);
        soonestIs(Check.houses(9, 7, 0) + "pays=2;earns=2;shared alike 2;", 2, -2, -2, -2, -2);
        soonestIs(Check.houses(0, 301) + CATCHES_UP, 0, -2, -2, -2, -2);
        RingPurses x = Check.of(Check.houses(0, 301) + CATCHES_UP);
        for (int d : new int[] {LEAST, -2, -1}) due("soonest(" + d + ")", x.soonest(d), -1);
        due("soonest(0)", x.soonest(0), -2);
        due("soonest(1)", x.soonest(1), 0);
        due("soonest(greatest)", x.soonest(GREATEST), 0);
        due("without HOUSES", new RingPurses().soonest(0), 0);
    }

    // ---- START

    /** "what 0 the HOUSE, 1 what it has then; NONE: no such ones." */
    private static void startOfWhich() {
        RingPurses x = Check.of(Check.houses(8, 8, 8) + "pays=left/2;");
        for (int house : new int[] {LEAST, -1, 3, 4, 10, GREATEST}) {
            for (int what = -1; what <= 2; what++) due("start(" + house + ", " + what + ")", x.start(house, what), -1);
        }
        for (int what : new int[] {LEAST, -2, -1, 2, 3, GREATEST}) due("start(0, " + what + ")", x.start(0, what), -1);
        due("without HOUSES", new RingPurses().start(0, 0), -1);
        RingPurses one = Check.of(Check.houses(8) + "pays=left/2;");
        due("of one", one.start(0, 0), 0);
        due("of one: it has", one.start(0, 1), 4);
    }

    private static void startsAre(String text, int[] from, int[] has) {
        RingPurses x = Check.of(text);
        for (int i = 0; i < from.length; i++) {
            due("start(" + i + ", 0) of " + text, x.start(i, 0), from[i]);
            due("start(" + i + ", 1) of " + text, x.start(i, 1), has[i]);
        }
    }

    /** "from which HOUSE on, paying one after another, once around (in a street, too)". */
    private static void startOnceAround() {
        startsAre(Check.houses(8, 8, 8) + "pays=left/2;", new int[] {2, 0, 1}, new int[] {6, 6, 6});
        startsAre("turns;" + Check.houses(8, 8, 8) + "pays=left/2;", new int[] {2, 0, 1}, new int[] {6, 6, 6});
        startsAre("street;" + Check.houses(8, 8, 8) + "pays=left/2;", new int[] {0, 0, 1}, new int[] {4, 6, 6});
        // the first to pay pays 1, the next ones 2, 4, 8 and on
        int[] own = {0, 1, 2, 3, 4, 5, 6, 7, 8, 9};
        int[] all = {999, 999, 999, 999, 999, 999, 999, 999, 999, 999};
        startsAre(alike(10, 1000) + "pays=pot+1;", own, all);
        startsAre("street;" + alike(10, 1000) + "pays=pot+1;", own, all);
        // the first pays 100, the next one 50, the last one 25
        startsAre(alike(3, 1000) + "pays=100-pot/2;", new int[] {1, 2, 0}, new int[] {975, 975, 975});
    }

    /** "all being as now, EARNS not looked at, the POT not shared", "of alike ones the first". */
    private static void startOfAlikeOnes() {
        startsAre(Check.houses(9, 9, 9) + "pays=1;", new int[] {0, 0, 0}, new int[] {8, 8, 8});
        startsAre(Check.houses(9, 9, 9) + "pays=1;earns=5;shared alike 1;", new int[] {0, 0, 0}, new int[] {8, 8, 8});
        startsAre(Check.houses(9, 9) + "pays=1;shared most 1;", new int[] {0, 0}, new int[] {8, 8});
        // who is the first to pay pays 3
        startsAre(Check.houses(9, 9, 9) + "pays=if pot<1 then 3 else 1;", new int[] {1, 0, 0}, new int[] {8, 8, 8});
        RingPurses x = Check.of(Check.houses(9, 9, 9) + "pays=if pot<4 then 3 else day;shared alike 30;");
        x.run(1);
        due("the POT and the day as now", x.start(0, 1), 5);
        x.hide(0, 6);
        due("what is hidden is not paid", x.start(0, 1), 6);
        x = Check.of(Check.houses(9, 9, 9) + "pays=own;");
        for (int house = 0; house < 3; house++) {
            // questions ahead of it leave nothing behind
            x.free(house, 1);
            x.best(house, 1, 1, 1);
            due("with nothing left from whichever", x.start(house, 0), 0);
            due("nothing", x.start(house, 1), 0);
        }
    }

    // ---- WEALTH

    /** "x less (0 .. what a has SHOWN)"; "-1000000: no such ones". */
    private static void wealthBounds() {
        for (int hidden : new int[] {0, 3, 10}) {
            RingPurses x = Check.of(Check.houses(10, 20) + "pays=left;");
            x.hide(0, hidden);
            int shown = 10 - hidden;
            for (int less : new int[] {LEAST, -1, 0, 1, shown - 1, shown, shown + 1, GREATEST}) {
                boolean fine = less >= 0 && less <= shown;
                due("wealth(0, 1, " + less + ") of " + shown, x.wealth(0, 1, less), fine ? less : NO_DEAL);
            }
        }
        RingPurses x = Check.of(Check.houses(10, 20, 30) + "pays=left;");
        for (int a : new int[] {LEAST, -1, 0, 1, 2, 3, 10, GREATEST}) {
            for (int b : new int[] {LEAST, -1, 0, 1, 2, 3, 10, GREATEST}) {
                boolean fine = a >= 0 && a <= 2 && b >= 0 && b <= 2;
                due("wealth(" + a + ", " + b + ", 0)", x.wealth(a, b, 0), fine ? 0 : NO_DEAL);
            }
        }
        due("without HOUSES", new RingPurses().wealth(0, 0, 0), NO_DEAL);
    }

    /** "how much less b pays this evening (below 0: how much more) if a had x less", "a may be b". */
    private static void wealthThisEvening() {
        RingPurses x = Check.of(Check.houses(10, 10, 10) + "pays=own/2;");
        int[] itself = {0, 1, 1, 2, 2, 3, 3, 4, 4, 5, 5};
        for (int less = 0; less <= 10; less++) due("wealth(0, 0, " + less + ")", x.wealth(0, 0, less), itself[less]);
        x = Check.of(Check.houses(4, 20, 9));
        // the gap of 1 is 5: it grows to 6 and on as 0 has less
        for (int less = 0; less <= 4; less++) due("more by " + less, x.wealth(0, 1, less), -less);
        // as 2 has less it falls to 0, and grows again
        int[] last = {0, 1, 2, 3, 4, 5, 4, 3, 2, 1};
        for (int less = 0; less <= 9; less++) due("less by " + less, x.wealth(2, 1, less), last[less]);
        due("what is earned this evening counts", Check.of(Check.houses(4, 50) + "pays=left;earns=own;").wealth(0, 1, 2), 4);
        due("what is shared does not", Check.of(Check.houses(4, 50) + "pays=left;shared alike 1;").wealth(0, 1, 2), 2);
        due("by turns the first has paid", Check.of("turns;" + Check.houses(4, 50) + "pays=if own<5 then own else left;").wealth(0, 1, 2), 0);
        due("around the ring", Check.of(Check.houses(50, 20, 4) + "pays=left;").wealth(2, 0, 1), 1);
        due("not in a street", Check.of("street;" + Check.houses(50, 20, 4) + "pays=left;").wealth(2, 0, 1), 0);
    }

    // ---- FREE

    private static void freeIs(String when, RingPurses x, int house, int gift, int whom) {
        due(when + ": the GIFT", x.free(house, 0), gift);
        due(when + ": to whom", x.free(house, 1), whom);
    }

    /** "what 0 the GIFT, 1 to whom (-2: a GIFT of 0, none needed); -2: there is none; NONE: no such ones." */
    private static void freeBounds() {
        RingPurses x = Check.of(Check.houses(5, 0) + "pays=if right<1 then 1 else 0;");
        freeIs("a GIFT of 1", x, 0, 1, 1);
        freeIs("a GIFT of 0", x, 1, 0, -2);
        for (int house : new int[] {LEAST, -1, 2, 3, 10, GREATEST}) {
            for (int what = -1; what <= 2; what++) due("free(" + house + ", " + what + ")", x.free(house, what), -1);
        }
        for (int what : new int[] {LEAST, -2, -1, 2, 3, GREATEST}) {
            due("free(0, " + what + ")", x.free(0, what), -1);
            due("free(1, " + what + ")", x.free(1, what), -1);
        }
        RingPurses none = Check.of(Check.houses(5, 5) + "pays=1;earns=0-1;");
        freeIs("none but to give all", none, 0, 5, 1);
        none.hide(0, 5);
        freeIs("nothing SHOWN", none, 0, 0, -2);
        freeIs("alone", Check.of(Check.houses(5) + "pays=1;"), 0, -2, -2);
        freeIs("alone with nothing", Check.of(Check.houses(0) + "pays=1;"), 0, 0, -2);
        freeIs("alone, WANTED below 0", Check.of(Check.houses(5) + "pays=0-1;"), 0, 0, -2);
        due("what 2 of none", Check.of(Check.houses(5) + "pays=1;").free(0, 2), -1);
        due("without HOUSES", new RingPurses().free(0, 0), -1);
    }

    /** "the least GIFT of a HOUSE (0 .. what it has SHOWN". */
    private static void freeOfShown() {
        for (int hidden = 0; hidden <= 3; hidden++) {
            for (int need = 5; need <= 9; need++) {
                RingPurses x = Check.of(Check.houses(10, 0) + "pays=if right<" + need + " then 1 else 0;");
                x.hide(0, hidden);
                int shown = 10 - hidden;
                // giving all leaves nothing to pay
                int gift = Math.min(need, shown);
                freeIs("needs " + need + " of " + shown, x, 0, gift, 1);
            }
        }
        RingPurses x = Check.of(Check.houses(9, 0) + "pays=if right<8 then 1 else 0;");
        freeIs("8 of 9", x, 0, 8, 1);
        x.hide(0, 1);
        freeIs("8 of 8", x, 0, 8, 1);
        x.hide(0, 2);
        freeIs("all that is SHOWN", x, 0, 7, 1);
        x = Check.of(Check.houses(9, 0, 0) + "pays=if left<8 then own+1 else 0;");
        x.hide(0, 1);
        freeIs("of one that looks at the one ahead", x, 0, 8, 1);
        freeIs("as all are then, EARNS not looked at", Check.of(Check.houses(9, 0) + "pays=right;earns=right;"), 1, 0, -2);
        freeIs("the POT is not shared", Check.of(Check.houses(4, 0) + "pays=own;earns=99;shared alike 1;"), 0, 4, 1);
    }

    /** "2000 at most". */
    private static void freeOf2000() {
        for (int purse = 1998; purse <= 2003; purse++) {
            RingPurses x = Check.of(Check.houses(purse, 0) + "pays=own;");
            freeIs("all of " + purse, x, 0, purse <= 2000 ? purse : -2, purse <= 2000 ? 1 : -2);
            x.hide(0, 3);
            freeIs("but 3 of " + purse, x, 0, purse - 3, 1);
        }
        freeIs("1999 of 9999", Check.of(Check.houses(9999, 0) + "pays=if right<1999 then 1 else 0;"), 0, 1999, 1);
        freeIs("2000 of 9999", Check.of(Check.houses(9999, 0) + "pays=if right<2000 then 1 else 0;"), 0, 2000, 1);
        freeIs("2001 of 9999", Check.of(Check.houses(9999, 0) + "pays=if right<2001 then 1 else 0;"), 0, -2, -2);
    }

    /** "the least number of the HOUSE to which". */
    private static void freeToTheLeast() {
        String own = "pays=if own<8 then 0 else 1;";
        freeIs("to whomever", Check.of(Check.houses(9, 0, 0) + own), 0, 2, 1);
        freeIs("to the first", Check.of(Check.houses(0, 9, 0) + own), 1, 2, 0);
        freeIs("to the first", Check.of(Check.houses(0, 0, 9) + own), 2, 2, 0);
        int[] ten = {0, 0, 0, 0, 0, 9, 0, 0, 0, 0};
        freeIs("to the one ahead alone", Check.of(Check.houses(ten) + "pays=if left<2 then 1 else 0;"), 5, 2, 4);
        freeIs("to the one behind alone", Check.of(Check.houses(ten) + "pays=if right<2 then 1 else 0;"), 5, 2, 6);
        ten = new int[] {9, 0, 0, 0, 0, 0, 0, 0, 0, 0};
        freeIs("to the last one", Check.of(Check.houses(ten) + "pays=if left<2 then 1 else 0;"), 0, 2, 9);
        freeIs("the least GIFT ahead of the least number", Check.of(Check.houses(8, 50, 3, 2) + "pays=if right<5 then own else 0;"), 1, 2, 2);
        freeIs("gap closed by one", Check.of(Check.houses(10, 4, 7, 1)), 3, 1, 0);
    }

    // ---- BEST GIFT

    private static void bestIs(String when, RingPurses x, int unit, int n, int much, int whom, int has) {
        due(when + ": how much", x.best(0, unit, n, 0), much);
        due(when + ": to whom", x.best(0, unit, n, 1), whom);
        due(when + ": what it has", x.best(0, unit, n, 2), has);
    }

    /** "units (1 .. 999 ...", "n evenings (1 .. 30)"; "NONE: no such ones". */
    private static void bestBounds() {
        RingPurses x = Check.of(Check.houses(9999, 0, 5) + "pays=if right<999 then 9 else 0;shared alike 30;");
        for (int house : new int[] {LEAST, -1, 3, 4, 10, GREATEST}) due("best of " + house, x.best(house, 1, 1, 0), -1);
        for (int unit : new int[] {LEAST, -1, 0, 1000, 1001, GREATEST}) due("best of unit " + unit, x.best(0, unit, 1, 0), -1);
        for (int n : new int[] {LEAST, -1, 0, 31, 32, GREATEST}) due("best over " + n, x.best(0, 1, n, 0), -1);
        for (int what : new int[] {LEAST, -2, -1, 3, 4, GREATEST}) due("best, what " + what, x.best(0, 1, 1, what), -1);
        bestIs("units of 1", x, 1, 1, 0, -2, 9990);
        bestIs("units of 999", x, 999, 1, 0, -2, 9990);
        x = Check.of(Check.houses(2000, 0) + "pays=if right<999 then own else 0;");
        bestIs("units of 998", x, 998, 1, 1996, 1, 4);
        bestIs("units of 999 it is", x, 999, 1, 999, 1, 1001);
        due("the last HOUSE", x.best(1, 1, 1, 2), 0);
        due("without HOUSES", new RingPurses().best(0, 1, 1, 0), -1);
        bestIs("alone", Check.of(Check.houses(5) + "pays=1;"), 1, 1, 0, -2, 4);
        bestIs("with nothing", Check.of(Check.houses(0, 9) + "pays=1;"), 1, 1, 0, -2, 0);
    }

    /** "0 to 20 of them". */
    private static void bestOfUnits() {
        for (int unit : new int[] {1, 2, 5}) {
            for (int units : new int[] {1, 19, 20, 21, 22}) {
                RingPurses x = Check.of(Check.houses(500, 0) + "pays=if right<" + units * unit + " then own else 0;");
                boolean fine = units <= 20;
                bestIs(units + " units of " + unit, x, unit, 1, fine ? units * unit : 0, fine ? 1 : -2, fine ? 500 - units * unit : 0);
            }
        }
        // each 1 given spares 10
        RingPurses x = Check.of(Check.houses(500, 0) + "pays=500-10*right;");
        bestIs("20 ones", x, 1, 1, 20, 1, 180);
        bestIs("20 twos", x, 2, 1, 40, 1, 360);
        bestIs("16 threes, which spare all", x, 3, 1, 51, 1, 449);
    }

    /** "as far as it has SHOWN them". */
    private static void bestAsShown() {
        // who has nothing SHOWN earns 50: only all that is SHOWN is worth a GIFT
        String text = Check.houses(10, 0) + "pays=0;earns=if own<1 then 50 else 0;";
        for (int hidden = 0; hidden <= 2; hidden++) {
            for (int unit : new int[] {1, 7, 8, 9, 10, 11, 12}) {
                RingPurses x = Check.of(text);
                x.hide(0, hidden);
                int shown = 10 - hidden;
                boolean fine = shown % unit == 0;
                bestIs("units of " + unit + " of " + shown, x, unit, 1, fine ? shown : 0, fine ? 1 : -2, fine ? 50 + hidden : 10);
            }
        }
        RingPurses x = Check.of(text);
        x.hide(0, 10);
        bestIs("nothing SHOWN", x, 1, 1, 0, -2, 60);
    }

    /** "of alike ones the least, then the least number to whom". */
    private static void bestOfAlikeOnes() {
        bestIs("nothing is as good", Check.of(Check.houses(9, 9) + "pays=own;"), 1, 1, 0, -2, 0);
        bestIs("to whomever", Check.of(Check.houses(9, 0, 0) + "pays=if own<8 then 0 else own;"), 1, 1, 2, 1, 7);
        bestIs("to the last one", Check.of(Check.houses(9, 5, 0) + "pays=if left<2 then own else 0;"), 1, 1, 2, 2, 7);
        String pays = "pays=if right<3 then own else if right<4 then 2 else if right<5 then own else 0;";
        bestIs("3 is as good as 5", Check.of(Check.houses(100, 0) + pays), 1, 1, 3, 1, 95);
        bestIs("5 is better than 3", Check.of(Check.houses(100, 0) + pays.replace("then 2", "then 3")), 1, 1, 5, 1, 95);
        bestIs("3 is better than 5", Check.of(Check.houses(100, 0) + pays.replace("then 2", "then 1")), 1, 1, 3, 1, 96);
        RingPurses x = Check.of(Check.houses(9, 9, 9, 9) + "pays=if own<9 then 0 else own;");
        due("the least number to whom", x.best(0, 1, 1, 1), 1);
        for (int house = 1; house <= 3; house++) {
            due("the least number to whom", x.best(house, 1, 1, 1), 0);
            due("how much", x.best(house, 1, 1, 0), 1);
        }
    }

    /** "behind n evenings (1 .. 30)". */
    private static void bestOverEvenings() {
        // until day n it pays 1 an evening if none was given
        for (int n : new int[] {1, 2, 3, 29, 30}) {
            RingPurses x = Check.of(Check.houses(100, 0) + "pays=if right<2 then 1 else 0;shared round 30;");
            boolean worth = n > 2 && n < 30;
            int without = n == 30 ? 100 : 100 - n;
            bestIs("over " + n, x, 2, n, worth ? 2 : 0, worth ? 1 : -2, worth ? 98 : without);
        }
        RingPurses x = Check.of(Check.houses(100, 0) + "pays=0;earns=if day<29 then 0 else if right<1 then 0 else 9;");
        bestIs("over 29", x, 1, 29, 0, -2, 100);
        bestIs("over 30", x, 1, 30, 1, 1, 108);
        x.run(1);
        bestIs("from now on over 28", x, 1, 28, 0, -2, 100);
        bestIs("from now on over 29", x, 1, 29, 1, 1, 108);
    }

    private static void bestOfEachHouse() {
        RingPurses x = Check.of(Check.houses(1, 0, 50) + "pays=if left<3 then own else 0;");
        int[][] want = {{0, -2, 1}, {0, -2, 0}, {3, 1, 47}};
        for (int house = 0; house < 3; house++) {
            for (int what = 0; what < 3; what++) due("best of " + house + ", " + what, x.best(house, 1, 1, what), want[house][what]);
        }
        String text = Check.houses(5, 9) + "pays=own;shared ";
        int[] has = {7, 14, 0};
        String[] hows = {"alike", "most", "round"};
        for (int how = 0; how < 3; how++) {
            due("as shared " + hows[how], Check.of(text + hows[how] + " 1;").best(1, 1, 1, 2), has[how]);
            due("to the first", Check.of(text + hows[how] + " 1;").best(0, 1, 1, 2), how == 1 ? 0 : 14 - has[how]);
        }
        due("round over 2", Check.of(text + "round 1;").best(1, 1, 2, 2), 14);
        due("round over 2, the first", Check.of(text + "round 1;").best(0, 1, 2, 2), 0);
    }

    // ---- LOAN

    /** "-1000000: no such ones, one and the same, x not 1 .. what a has SHOWN." */
    private static void loanBounds() {
        for (int hidden : new int[] {0, 3, 9, 10}) {
            RingPurses r = Check.of(Check.houses(10, 4) + "pays=0;");
            r.hide(0, hidden);
            int shown = 10 - hidden;
            for (int x : new int[] {LEAST, -1, 0, 1, 2, shown - 1, shown, shown + 1, 11, GREATEST}) {
                boolean fine = x >= 1 && x <= shown;
                due("LEAST of " + x + " of " + shown, r.loan(0, 1, x, false), fine ? 0 : NO_DEAL);
                due("MOST of " + x + " of " + shown, r.loan(0, 1, x, true), fine ? 0 : NO_DEAL);
            }
        }
        RingPurses r = Check.of(Check.houses(10, 4, 7) + "pays=0;");
        for (int a : new int[] {LEAST, -1, 0, 1, 2, 3, 10, GREATEST}) {
            for (int b : new int[] {LEAST, -1, 0, 1, 2, 3, 10, GREATEST}) {
                boolean fine = a >= 0 && a <= 2 && b >= 0 && b <= 2 && a != b;
                due("loan(" + a + ", " + b + ", 1, false)", r.loan(a, b, 1, false), fine ? 0 : NO_DEAL);
                due("loan(" + a + ", " + b + ", 1, true)", r.loan(a, b, 1, true), fine ? 0 : NO_DEAL);
            }
        }
        due("without HOUSES", new RingPurses().loan(0, 1, 1, true), NO_DEAL);
    }

    /** "x as far as b has it SHOWN then". */
    private static void loanGivenBack() {
        // b pays 6 of what it has: of 4 and x it has x - 2 behind the evening
        for (int x = 1; x <= 8; x++) {
            RingPurses r = Check.of("street;" + Check.houses(20, 4) + "pays=if own<12 then 6 else 0;shared alike 30;");
            int shown = Math.max(0, 4 + x - 6);
            if (4 + x >= 12) shown = 4 + x;
            int back = Math.min(x, shown);
            due("LEAST of " + x, r.loan(0, 1, x, false), x - back);
            due("MOST of " + x, r.loan(0, 1, x, true), shown - back);
        }
        for (int hidden = 0; hidden <= 4; hidden++) {
            RingPurses r = Check.of(Check.houses(20, 4) + "pays=0;");
            r.hide(1, hidden);
            due("what is hidden does not matter if all is there", r.loan(0, 1, 5, false), 0);
            // it pays 5 of 9: of the 4 that are left it gives back what is not hidden
            r = Check.of("street;" + Check.houses(20, 4) + "pays=if own<10 then 5 else 0;shared alike 30;");
            r.hide(1, hidden);
            due("of what is SHOWN then: LEAST", r.loan(0, 1, 5, false), 1 + hidden);
            due("MOST", r.loan(0, 1, 5, true), 0);
        }
    }

    /** "LEAST r: the least so that a has no less ...; MOST r: the greatest so that b has no less (both may be below 0)". */
    private static void loanRates() {
        // a pays what b has shown more or less of: with 1 more at b it pays 1 less
        RingPurses r = Check.of("street;" + Check.houses(50, 4) + "pays=if own<40 then 0 else 9-right/5;shared alike 30;");
        due("a gains: LEAST below 0", r.loan(0, 1, 1, false), -1);
        due("b does not: MOST", r.loan(0, 1, 1, true), 0);
        r = Check.of("street;" + Check.houses(50, 4) + "pays=if own<5 then own else 0;shared alike 30;");
        due("b gains: LEAST", r.loan(0, 1, 1, false), 0);
        due("b gains: MOST", r.loan(0, 1, 1, true), 4);
        r = Check.of("street;" + Check.houses(50, 4) + "pays=if own<5 then 0 else own;shared alike 30;");
        due("b loses all: LEAST", r.loan(0, 1, 1, false), 0);
        due("b loses all: MOST below 0", r.loan(0, 1, 1, true), -4);
        r = Check.of(Check.houses(10, 4) + "pays=0;earns=own;shared alike 1;");
        due("what a would have earned", r.loan(0, 1, 3, false), 3);
        due("what b earned", r.loan(0, 1, 3, true), 3);
        r = Check.of(Check.houses(10, 4) + "pays=own;shared round 1;");
        due("what is shared that evening comes ahead of it: LEAST", r.loan(0, 1, 3, false), 0);
        due("b has nothing to give back: MOST", r.loan(0, 1, 3, true), 0);
    }

    // ---- SITE

    /** "the place (0 .. how many there are); -2: 10 are there; NONE: no such PURSE (0 .. 9999)." */
    private static void siteBounds() {
        for (int n = 0; n <= 10; n++) {
            RingPurses x = Check.of(alike(n, 5) + "pays=0;");
            for (int purse : new int[] {0, 1, 9998, 9999}) due("site(" + purse + ") with " + n, x.site(purse), n == 10 ? -2 : 0);
            for (int purse : new int[] {LEAST, -2, -1, 10000, 10001, GREATEST}) due("site(" + purse + ") with " + n, x.site(purse), -1);
        }
        RingPurses x = Check.of(alike(10, 5) + "pays=0;");
        x.burn(4);
        due("9 again", x.site(5), 0);
        x.build(9, 5);
        due("10 again", x.site(5), -2);
    }

    /** "where a new HOUSE, BUILT, leaves the least sum of all WANTED, EARNS not looked at: of alike ones the first place." */
    private static void sitePlaces() {
        for (int n = 1; n <= 9; n++) {
            int[] purses = new int[n];
            for (int i = 0; i < n; i++) purses[i] = 1;
            purses[n - 1] = 100;
            // the last one pays as much as it has, but for one behind it that has nothing
            due("behind all of " + n, Check.of("street;" + Check.houses(purses) + "pays=right;").site(0), n);
            purses[n - 1] = 1;
            purses[0] = 100;
            due("ahead of all of " + n, Check.of("street;" + Check.houses(purses) + "pays=left;earns=99;").site(0), 0);
        }
        for (int rich = 0; rich < 8; rich++) {
            int[] purses = {1, 1, 1, 1, 1, 1, 1, 1, 1};
            purses[rich] = 50;
            purses[rich + 1] = 50;
            // both pay 50 as long as they stand side by side and look at one another
            String looks = "pays=if left+right<51 then 0 else own;";
            due("between the rich " + rich, Check.of("street;" + Check.houses(purses) + looks).site(0), rich + 1);
        }
        due("of alike ones the first", Check.of("street;" + Check.houses(1, 1, 1) + "pays=right;").site(0), 1);
        due("in a ring ahead of 0 is behind all", Check.of(Check.houses(1, 1, 1) + "pays=right;").site(0), 0);
        due("by turns, too, WANTED as all are now", Check.of("turns;street;" + Check.houses(1, 5) + "pays=if pot<1 then own else 0;").site(9), 0);
        RingPurses x = Check.of("street;" + Check.houses(1, 100) + "pays=right;");
        due("behind what is SHOWN", x.site(0), 2);
        // ahead of all 102 are WANTED, behind all 1 and twice the PURSE
        due("a PURSE of 1", x.site(1), 2);
        due("a PURSE of 50", x.site(50), 2);
        due("a PURSE of 51", x.site(51), 0);
        due("a PURSE of 9999", x.site(9999), 0);
        x.hide(1, 100);
        due("not behind what is hidden", x.site(0), 0);
    }

    // ---- RESTS

    /** "how many (i NONE), else the i-th (bits); -2: more than 8 HOUSES; NONE: no such ones, not so many." */
    private static void restsBounds() {
        RingPurses x = Check.of(alike(3, 5) + "pays=0;");
        for (int unit : new int[] {LEAST, -1, 0, 1000, 1001, GREATEST}) {
            for (int i = -2; i <= 1; i++) due("rests(" + unit + ", " + i + ")", x.rests(unit, i), -1);
        }
        for (int unit : new int[] {1, 2, 998, 999}) {
            due("how many", x.rests(unit, -1), 8);
            for (int i = 0; i < 8; i++) due("rests(" + unit + ", " + i + ")", x.rests(unit, i), i);
            for (int i : new int[] {LEAST, -3, -2, 8, 9, 255, 256, GREATEST}) due("rests(" + unit + ", " + i + ")", x.rests(unit, i), -1);
        }
        // all hide, whatever the others do
        x = Check.of(alike(3, 5) + "pays=own;");
        due("one set", x.rests(5, -1), 1);
        due("the first", x.rests(5, 0), 7);
        due("none behind it", x.rests(5, 1), -1);
    }

    /** "at most 8 HOUSES, else -2". */
    private static void restsOfHouses() {
        for (int n = 0; n <= 10; n++) {
            RingPurses x = Check.of(alike(n, 5) + "pays=0;");
            RingPurses y = Check.of(alike(n, 5) + "pays=own;");
            int sets = 1 << n;
            boolean fine = n <= 8;
            due("how many of " + n, x.rests(5, -1), fine ? sets : -2);
            due("the first of " + n, x.rests(5, 0), fine ? 0 : -2);
            due("the last of " + n, x.rests(5, Math.min(sets, 256) - 1), fine ? sets - 1 : -2);
            if (fine) due("one more", x.rests(5, sets), -1);
            due("one set of " + n, y.rests(5, -1), fine ? 1 : -2);
            due("which", y.rests(5, 0), fine ? sets - 1 : -2);
            due("NONE for the unit", x.rests(0, -1), -1);
            due("NONE for the number", x.rests(5, -2), -1);
        }
        RingPurses x = Check.of(alike(9, 5) + "pays=0;");
        due("9", x.rests(1, -1), -2);
        x.burn(3);
        due("8 again", x.rests(1, -1), 256);
        x.build(0, 4);
        due("9 again", x.rests(1, -1), -2);
    }

    /** "each HOUSE hides nothing, or so many (or what it has, if that is less)". */
    private static void restsOfWhatItHas() {
        // it earns only if it shows nothing, and no less
        RingPurses x = Check.of(Check.houses(5) + "pays=0;earns=if own<0 then 0 else if own<1 then 9 else 0;");
        for (int unit : new int[] {1, 4}) due("hiding " + unit + " of 5 or not", x.rests(unit, -1), 2);
        for (int unit : new int[] {5, 6, 10, 999}) {
            due("hiding " + unit + " of 5: how many", x.rests(unit, -1), 1);
            due("which", x.rests(unit, 0), 1);
        }
        x.hide(0, 5);
        for (int unit : new int[] {1, 4}) due("whatever it hides now, " + unit, x.rests(unit, -1), 2);
        due("whatever it hides now", x.rests(5, 0), 1);
        x = Check.of(Check.houses(0) + "pays=own;");
        due("of one that has nothing", x.rests(1, -1), 2);
        // one hides all of its 3, the other one 3 of its 8
        x = Check.of(Check.houses(3, 8) + "pays=0;earns=if own<1 then 9 else if own<6 then 4 else 0;");
        due("hiding 3: how many", x.rests(3, -1), 1);
        due("hiding 3: which", x.rests(3, 0), 3);
        due("hiding 2, which is all the same: how many", x.rests(2, -1), 4);
    }

    /** "none by itself, doing the other thing, would have more behind one evening"; "the least bits first". */
    private static void restsOfMore() {
        // hiding is worth 1, 0 or -1 more
        RingPurses x = Check.of(Check.houses(9) + "pays=0;earns=if own<9 then 5 else 4;");
        due("more by hiding", x.rests(1, -1) * 10 + x.rests(1, 0), 11);
        x = Check.of(Check.houses(9) + "pays=0;earns=if own<9 then 5 else 5;");
        due("alike", x.rests(1, -1) * 10 + x.rests(1, 0), 20);
        due("alike, the other one", x.rests(1, 1), 1);
        x = Check.of(Check.houses(9) + "pays=0;earns=if own<9 then 4 else 5;");
        due("less by hiding", x.rests(1, -1) * 10 + x.rests(1, 0), 10);
        // what it pays comes back to 0, if all is shared to it
        x = Check.of(Check.houses(5, 5) + "pays=own;shared round 1;");
        due("round: how many", x.rests(5, -1), 2);
        due("round: the first", x.rests(5, 0), 2);
        x = Check.of(Check.houses(5, 5) + "pays=own;shared most 1;");
        due("most: how many", x.rests(5, -1), 2);
        due("most: the first", x.rests(5, 0), 2);
        x = Check.of(Check.houses(5, 5) + "pays=own;shared alike 1;");
        due("alike: how many", x.rests(5, -1), 1);
        due("alike: the first", x.rests(5, 0), 3);
        // bit 0 is HOUSE 0
        x = Check.of(Check.houses(5, 0, 0) + "pays=own;");
        due("HOUSE 0 hides, the others have nothing to", x.rests(5, -1), 4);
        int[] want = {1, 3, 5, 7, -1};
        for (int i = 0; i < want.length; i++) due("rests(5, " + i + ")", x.rests(5, i), want[i]);
        x = Check.of(Check.houses(0, 0, 5) + "pays=own;");
        want = new int[] {4, 5, 6, 7, -1};
        for (int i = 0; i < want.length; i++) due("rests(5, " + i + ")", x.rests(5, i), want[i]);
    }

    /** The same of two that look at one another: both show 30, one hides 29, both hide 28. */
    private static void restsOfTwo() {
        String odd = "(left+right-29)*(left+right-29)";
        RingPurses x = Check.of("street;" + Check.houses(10, 20) + "pays=if own<15 then 1-" + odd + " else " + odd + ";");
        due("one would do alike, the other one not: how many", x.rests(1, -1), 0);
        due("none", x.rests(1, 0), -1);
        x = Check.of("street;" + Check.houses(10, 20) + "pays=1-" + odd + ";");
        due("both would do alike: how many", x.rests(1, -1), 2);
        due("neither hides", x.rests(1, 0), 0);
        due("both hide", x.rests(1, 1), 3);
        x = Check.of("street;" + Check.houses(10, 20) + "pays=if left+right<29 then 0 else 1;");
        due("both would gain, but none by itself: how many", x.rests(1, -1), 2);
        due("neither hides", x.rests(1, 0), 0);
        due("both hide", x.rests(1, 1), 3);
        x = Check.of("street;" + Check.houses(10, 20) + "pays=if left+right<30 then 0 else 1;");
        due("one is enough: how many", x.rests(1, -1), 3);
        due("the first hides", x.rests(1, 0), 1);
        due("the second hides", x.rests(1, 1), 2);
        due("both hide, which is no less", x.rests(1, 2), 3);
    }
}
