/**
 * The edges that part II of the terms and promises 6 to 14 name, each at the case itself and at its neighbours.
 * The sentence of the document that a test is for stands above it.
 */
final class EdgesOfEveningTest {
    private static final int LEAST = Integer.MIN_VALUE;
    private static final int GREATEST = Integer.MAX_VALUE;

    public static void main(String[] args) {
        neighboursOfARing();
        neighboursOfAStreet();
        neighboursOfWhoComesAndGoes();
        gaps();
        shown();
        wanted();
        earnsAreHeld();
        earnsOneByOne();
        byTurnsAndAtOnce();
        sharedEvenings();
        potOfAllHouses();
        whatIsLeftStays();
        whoPaidMost();
        whoPaidMostSinceItWasShared();
        whoPaidMoreThanAnIntHolds();
        roundAndRound();
        roundByTheHousesThen();
        withoutHouses();
        days();
        ifsHold();
        intsThatWrap();
        dividedTowardsNought();
        dividedByNought();
        lots();
        ofAHouse();
        runs();
        theLongestUse();
        gifts();
        hiding();
        taking();
        building();
        burning();
        numbersAsTheyStand();
        joiningInARing();
        joiningInAStreet();
        joiningBoth();
        undoing();
        undoingTheLast30();
        undoingAroundTheEnd();
        Check.end();
    }

    private static void due(String call, long got, long want) {
        Check.due(call, got, want);
    }

    private static void due(String call, boolean got, boolean want) {
        Check.due(call, got, want);
    }

    private static void purses(String when, RingPurses x, int... want) {
        due(when + ": houses", x.count(0), want.length);
        for (int i = 0; i < want.length; i++) due(when + ": purse of " + i, x.house(i, 0), want[i]);
    }

    /** HOUSES with purses 1001, 1002 and on: by what is looked at, less 1000, it can be told whose it is. */
    private static String numbered(int n) {
        int[] purses = new int[n];
        for (int i = 0; i < n; i++) purses[i] = 1001 + i;
        return Check.houses(purses);
    }

    private static void seesIs(String text, String sees, int... want) {
        RingPurses x = Check.of(text + "pays=" + sees + "-1000;");
        for (int i = 0; i < want.length; i++) due(sees + " of " + i + " in " + text, x.house(i, 4), want[i]);
    }

    /**
     * "LEFT of a HOUSE: SHOWN of the one ahead of it, RIGHT: of the one behind it; in a ring of one ...: its own",
     * "the last one beside the first".
     */
    private static void neighboursOfARing() {
        for (int n = 1; n <= 10; n++) {
            int[] left = new int[n];
            int[] right = new int[n];
            for (int i = 0; i < n; i++) {
                left[i] = i == 0 ? n : i;
                right[i] = i == n - 1 ? 1 : i + 2;
            }
            seesIs(numbered(n), "left", left);
            seesIs(numbered(n), "right", right);
        }
    }

    /** "at the ends of a street where there is none: its own". */
    private static void neighboursOfAStreet() {
        seesIs("street;" + numbered(1), "left", 1);
        seesIs("street;" + numbered(1), "right", 1);
        seesIs("street;" + numbered(2), "left", 1, 1);
        seesIs("street;" + numbered(2), "right", 2, 2);
        seesIs("street;" + numbered(3), "left", 1, 1, 2);
        seesIs("street;" + numbered(3), "right", 2, 3, 3);
        seesIs("street;" + numbered(10), "left", 1, 1, 2, 3, 4, 5, 6, 7, 8, 9);
        seesIs("street;" + numbered(10), "right", 2, 3, 4, 5, 6, 7, 8, 9, 10, 10);
    }

    /** "HOUSES are numbered from 0 on as they stand now." */
    private static void neighboursOfWhoComesAndGoes() {
        RingPurses x = Check.of(numbered(3) + "pays=left-1000;");
        x.build(3, 1009);
        due("behind all: left of 0", x.house(0, 4), 9);
        x.build(0, 1008);
        due("ahead of 0: left of 0", x.house(0, 4), 9);
        due("left of 1", x.house(1, 4), 8);
        x.burn(4);
        due("the last one burnt: left of 0", x.house(0, 4), 3);
        x.burn(0);
        due("the first burnt: left of 0", x.house(0, 4), 3);
        x.burn(1);
        due("one between burnt: left of 1", x.house(1, 4), 1);
        x.burn(1);
        due("left alone", x.house(0, 4), 1);
        x.build(1, 1007);
        due("two again: left of 0", x.house(0, 4), 7);
        due("left of 1", x.house(1, 4), 1);
    }

    private static void gapsAre(String text, int... want) {
        RingPurses x = Check.of(text);
        for (int i = 0; i < want.length; i++) due("GAP of " + i + " in " + text, x.house(i, 3), want[i]);
    }

    /** "GAP: how far LEFT and RIGHT are apart." */
    private static void gaps() {
        gapsAre(Check.houses(9999), 0);
        gapsAre("street;" + Check.houses(9999), 0);
        gapsAre(Check.houses(9999, 0), 0, 0);
        gapsAre("street;" + Check.houses(9999, 0), 9999, 9999);
        gapsAre(Check.houses(9999, 0, 5), 5, 9994, 9999);
        gapsAre("street;" + Check.houses(9999, 0, 5), 9999, 9994, 5);
        gapsAre(Check.houses(3, 3, 4, 3), 0, 1, 0, 1);
        RingPurses x = Check.of(Check.houses(5, 7, 5));
        x.hide(2, 1);
        due("by what is SHOWN", x.house(1, 3), 1);
        x.hide(0, 1);
        due("of both", x.house(1, 3), 0);
    }

    /** "SHOWN: what a HOUSE has, less what it hides." */
    private static void shown() {
        for (int hidden : new int[] {0, 1, 9, 10}) {
            RingPurses x = Check.of(Check.houses(10, 20) + "pays=left;");
            x.hide(0, hidden);
            due("has", x.house(0, 0), 10);
            due("hides", x.house(0, 1), hidden);
            due("SHOWN", x.house(0, 2), 10 - hidden);
            due("seen so", x.house(1, 4), 10 - hidden);
            due("all that HOUSES have", x.count(7), 30);
        }
    }

    /** "WANTED: what PAYS tells, held to 0 .. what it has SHOWN." */
    private static void wanted() {
        String[] tells = {"0-9999", "0-1", "0", "1", "own-1", "own", "own+1", "own+9999", "9999*9999"};
        int[][] want = {{0, 0, 0, 0, 0, 0, 0, 0, 0}, {0, 0, 0, 1, 0, 1, 1, 1, 1}, {0, 0, 0, 1, 6, 7, 7, 7, 7}};
        int[] shown = {0, 1, 7};
        for (int s = 0; s < 3; s++) {
            for (int i = 0; i < tells.length; i++) {
                RingPurses x = Check.of(Check.houses(10) + "pays=" + tells[i] + ";");
                x.hide(0, 10 - shown[s]);
                due("WANTED of " + tells[i] + " by " + shown[s], x.house(0, 4), want[s][i]);
                x.run(1);
                due("paid", x.house(0, 5), want[s][i]);
                due("left", x.house(0, 0), 10 - want[s][i]);
                due("in the POT", x.count(5), want[s][i]);
            }
        }
    }

    /** "EARNS of each HOUSE ... held to 0 .. 999, comes into its PURSE." */
    private static void earnsAreHeld() {
        String[] tells = {"0-9999", "0-1", "0", "1", "998", "999", "1000", "1001", "9999", "2048*1024*1024", "2048*1024*1024-1"};
        int[] want = {0, 0, 0, 1, 998, 999, 999, 999, 999, 0, 999};
        for (int i = 0; i < tells.length; i++) {
            for (int purse : new int[] {0, 9999}) {
                RingPurses x = Check.of(Check.houses(purse) + "pays=0;earns=" + tells[i] + ";");
                x.run(1);
                due("EARNS of " + tells[i], x.house(0, 0) - purse, want[i]);
            }
        }
        RingPurses x = Check.of(Check.houses(4) + "pays=own;earns=7;");
        x.hide(0, 4);
        x.run(1);
        due("of what comes it pays the same evening", x.house(0, 5), 7);
        due("what is hidden it keeps", x.house(0, 0), 4);
    }

    /** "one by one by numbers, each as all is then". */
    private static void earnsOneByOne() {
        RingPurses x = Check.of(Check.houses(1, 2, 4) + "pays=0;earns=left;");
        x.run(1);
        // 4 more; 5 more; 7 more
        purses("of the one ahead", x, 5, 7, 11);
        x = Check.of(Check.houses(1, 2, 4) + "pays=0;earns=right;");
        x.run(1);
        // 2 more; 4 more; 3 more, of what the first has by then
        purses("of the one behind", x, 3, 6, 7);
        x = Check.of("street;" + Check.houses(1, 2, 4) + "pays=0;earns=right;");
        x.run(1);
        purses("at the end of a street", x, 3, 6, 8);
    }

    /**
     * "by turns one by one by numbers, each by what is SHOWN then; else all by what was SHOWN ahead of all";
     * "pot: ... (by turns with what came this evening)".
     */
    private static void byTurnsAndAtOnce() {
        String right = Check.houses(2, 4, 6) + "pays=right/2;";
        RingPurses x = Check.of(right);
        x.run(1);
        purses("at once", x, 0, 1, 5);
        x = Check.of("turns;" + right);
        x.run(1);
        // the last one looks at the first, who has nothing by then
        purses("by turns", x, 0, 1, 6);
        String pot = Check.houses(50, 50, 50) + "pays=pot+1;shared alike 30;";
        x = Check.of(pot);
        x.run(1);
        purses("POT at once", x, 49, 49, 49);
        x.run(1);
        purses("POT of the evening ahead", x, 45, 45, 45);
        x = Check.of("turns;" + pot);
        x.run(1);
        purses("POT by turns", x, 49, 48, 46);
        x.run(1);
        purses("POT by turns of all evenings", x, 41, 32, 14);
    }

    /** "if its number is one of SHARED's (a whole number of times so many), the POT is shared". */
    private static void sharedEvenings() {
        String[] hows = {"alike", "most", "round"};
        for (int every : new int[] {1, 2, 3, 7, 29, 30}) {
            for (String how : hows) {
                RingPurses x = Check.of(Check.houses(5) + "shared " + how + " " + every + ";");
                due("not on evening 0", x.count(8), 0);
                for (int n = 1; n <= 2 * every + 1; n++) {
                    due("the next evening", x.run(1), n);
                    due("shared behind " + n + " of " + every, x.count(8), n / every);
                }
                x.run(300);
                due("shared behind many", x.count(8), (2 * every + 301) / every);
            }
        }
        RingPurses x = Check.of(Check.houses(90) + "pays=1;shared alike 3;");
        x.run(2);
        due("the POT one ahead", x.count(5), 2);
        x.run(1);
        due("the POT then", x.count(5), 0);
        x.run(1);
        due("the POT one behind", x.count(5), 1);
    }

    private static void alikeIs(int[] pays, int each, int left) {
        int[] purses = new int[pays.length];
        for (int i = 0; i < pays.length; i++) purses[i] = 100 + pays[i];
        RingPurses x = Check.of(Check.houses(purses) + "pays=own-100;shared alike 1;");
        x.run(1);
        for (int i = 0; i < pays.length; i++) due("each of " + pays.length, x.house(i, 0), 100 + each);
        due("left of " + each + " each", x.count(5), left);
        due("shared", x.count(8), 1);
    }

    /** "alike: to each the POT by all HOUSES, rounded down (what is left stays)". */
    private static void potOfAllHouses() {
        alikeIs(new int[] {0, 0, 0}, 0, 0);
        alikeIs(new int[] {1, 0, 0}, 0, 1);
        alikeIs(new int[] {0, 1, 1}, 0, 2);
        alikeIs(new int[] {1, 1, 1}, 1, 0);
        alikeIs(new int[] {1, 1, 2}, 1, 1);
        alikeIs(new int[] {2, 1, 2}, 1, 2);
        alikeIs(new int[] {2, 2, 2}, 2, 0);
        alikeIs(new int[] {0}, 0, 0);
        alikeIs(new int[] {7}, 7, 0);
        alikeIs(new int[] {1, 0}, 0, 1);
        alikeIs(new int[] {0, 9, 0, 0, 0, 0, 0, 0, 0, 0}, 0, 9);
        alikeIs(new int[] {1, 1, 1, 1, 1, 1, 1, 1, 1, 1}, 1, 0);
        alikeIs(new int[] {1, 1, 1, 1, 1, 1, 1, 1, 1, 2}, 1, 1);
    }

    private static void whatIsLeftStays() {
        RingPurses x = Check.of(Check.houses(102, 102, 101) + "pays=own-100;shared alike 1;");
        x.run(1);
        due("2 are left", x.count(5), 2);
        x.hide(1, 1);
        x.hide(2, 1);
        x.run(1);
        // one has come, 3 in all
        purses("shared with what came", x, 101, 102, 102);
        due("none is left", x.count(5), 0);
    }

    private static void mostIs(int whom, int... pays) {
        int[] purses = new int[pays.length];
        int all = 0;
        for (int i = 0; i < pays.length; i++) {
            purses[i] = 100 + pays[i];
            all += pays[i];
        }
        RingPurses x = Check.of(Check.houses(purses) + "pays=own-100;shared most 1;");
        x.run(1);
        for (int i = 0; i < pays.length; i++) due("most to " + whom + ": " + i, x.house(i, 0), i == whom ? 100 + all : 100);
        due("nothing is left", x.count(5), 0);
        due("shared", x.count(8), 1);
    }

    /** "most: all to the HOUSE that paid most since the POT was shared (of alike ones the first)". */
    private static void whoPaidMost() {
        mostIs(0, 5);
        mostIs(0, 3, 2, 1);
        mostIs(1, 2, 3, 1);
        mostIs(2, 1, 2, 3);
        mostIs(0, 2, 2, 2);
        mostIs(1, 1, 2, 2);
        mostIs(0, 2, 1, 2);
        mostIs(2, 1, 1, 2);
        mostIs(9, 1, 1, 1, 1, 1, 1, 1, 1, 1, 2);
        mostIs(0, 1, 1, 1, 1, 1, 1, 1, 1, 1, 1);
        mostIs(8, 0, 0, 0, 0, 0, 0, 0, 0, 1, 1);
        RingPurses x = Check.of(Check.houses(0, 5) + "pays=0;shared most 2;");
        x.run(2);
        due("none paid: it is shared all the same", x.count(8), 1);
    }

    /** What was paid can be TAKEN and paid again: here more than 2^31 since the POT was shared, an evening ahead of the next time. */
    private static RingPurses paidAgainAndAgain(int payer) {
        String text = Check.houses(0, 0, 0, 0, 0, 0, 0, 0, 0, 0)
            + "pays=if day<9000 then 0 else own;earns=999;shared most 30;";
        RingPurses x = Check.of(text);
        for (int i = 0; i < 30; i++) x.run(300);
        x.run(1);
        long paid = x.house(payer, 5);
        for (int i = 0; i < 28; i++) {
            x.grab(payer);
            x.run(1);
            paid += x.house(payer, 5);
        }
        due("evening", x.count(6), 9029);
        due("paid more than 2^31", paid > 1L << 31, true);
        return x;
    }

    private static void getsAll(String when, RingPurses x, int payer) {
        due(when + ": the evening it is shared", x.run(1), 9030);
        due(when + ": nothing is left", x.count(5), 0);
        due(when + ": all to " + payer, x.house(payer, 0), x.count(7));
    }

    /** "most: all to the HOUSE that paid most since the POT was shared", however much that is. */
    private static void whoPaidMoreThanAnIntHolds() {
        for (int payer = 0; payer < 10; payer += 3) getsAll("paid again and again", paidAgainAndAgain(payer), payer);
        RingPurses x = paidAgainAndAgain(4);
        x.hold(1);
        x.grab(2);
        x.restore(1);
        getsAll("held", x, 4);
        due("undo", x.undo(), true);
        getsAll("undone", x, 4);
        x = paidAgainAndAgain(4);
        x.burn(1);
        getsAll("one ahead is burnt", x, 3);
        x = paidAgainAndAgain(4);
        x.burn(9);
        x.build(2, 0);
        getsAll("one is built ahead", x, 5);
        x = paidAgainAndAgain(4);
        x.join(3);
        getsAll("joined with the one ahead", x, 3);
    }

    private static void whoPaidMostSinceItWasShared() {
        for (int given = 4; given <= 6; given++) {
            RingPurses x = Check.of(Check.houses(105, 100, 100) + "pays=own-100;shared most 2;");
            x.run(1);
            x.give(2, 1, given);
            due("paid since", x.house(0, 6), 5);
            x.run(1);
            due("behind 5 and " + given + ": first", x.house(0, 0), given <= 5 ? 105 + given : 100);
            due("second", x.house(1, 0), given <= 5 ? 100 : 105 + given);
        }
        for (int given = 4; given <= 6; given++) {
            RingPurses x = Check.of(Check.houses(100, 105, 100) + "pays=own-100;shared most 2;");
            x.run(1);
            x.give(2, 0, given);
            x.run(1);
            due("behind " + given + " later and 5: first", x.house(0, 0), given < 5 ? 100 : 105 + given);
            due("second", x.house(1, 0), given < 5 ? 105 + given : 100);
        }
        for (int given = 1; given <= 3; given++) {
            RingPurses x = Check.of(Check.houses(105, 103, 100) + "pays=own-100;shared most 2;");
            x.run(1);
            x.give(2, 1, given);
            x.run(1);
            due("behind 5, and 3 and " + given + ": second", x.house(1, 0), given <= 2 ? 100 : 108 + given);
        }
        RingPurses x = Check.of(Check.houses(100, 4) + "pays=own/2;shared most 1;");
        x.run(1);
        purses("the first paid 50", x, 102, 2);
        due("it is shared", x.house(0, 6) + x.house(1, 6), 0);
        x.hide(0, 102);
        x.run(1);
        purses("what was paid ahead of that counts no more", x, 102, 2);
        due("nothing of it is left", x.count(5), 0);
        int[] ten = {100, 100, 100, 100, 100, 100, 100, 100, 100, 100};
        for (int rich = 0; rich < 10; rich++) {
            ten[rich] = 150;
            x = Check.of(Check.houses(ten) + "pays=own-100;shared alike 1;");
            x.run(1);
            for (int i = 0; i < 10; i++) {
                due("what " + i + " paid since", x.house(i, 6), 0);
                due("what " + i + " paid", x.house(i, 5), i == rich ? 50 : 0);
            }
            ten[rich] = 100;
        }
    }

    /** "round: all to the HOUSE with the number of times it was shared ahead, its rest by HOUSES". */
    private static void roundAndRound() {
        RingPurses x = Check.of(Check.houses(50, 50, 50) + "pays=1;shared round 1;");
        int[][] want = {{52, 49, 49}, {51, 51, 48}, {50, 50, 50}, {52, 49, 49}, {51, 51, 48}, {50, 50, 50}, {52, 49, 49}};
        for (int[] purses : want) {
            x.run(1);
            purses("round", x, purses);
            due("nothing is left", x.count(5), 0);
        }
        x = Check.of(Check.houses(50) + "pays=1;shared round 1;");
        for (int i = 0; i < 3; i++) x.run(1);
        purses("round of one", x, 50);
        x = Check.of(Check.houses(50, 50, 50, 50, 50, 50, 50, 50, 50, 50) + "pays=if day<9 then 0 else 1;shared round 1;");
        x.run(10);
        due("the tenth time", x.house(9, 0), 59);
        x.run(1);
        due("the eleventh time", x.house(0, 0), 58);
    }

    private static void roundByTheHousesThen() {
        RingPurses x = Check.of(Check.houses(50, 50, 50) + "pays=1;shared round 1;");
        x.run(1);
        x.burn(2);
        x.run(1);
        purses("1 by 2", x, 51, 50);
        x.run(1);
        purses("2 by 2", x, 52, 49);
        x.build(2, 50);
        x.run(1);
        purses("3 by 3", x, 54, 48, 49);
        x.run(1);
        purses("4 by 3", x, 53, 50, 48);
    }

    /** "Without HOUSES it stays." */
    private static void withoutHouses() {
        for (String how : new String[] {"alike", "most", "round"}) {
            RingPurses x = Check.of(Check.houses(5) + "pays=own;shared " + how + " 2;");
            x.run(1);
            x.burn(0);
            due("an evening at which it would be shared", x.run(1), 2);
            due("the POT stays", x.count(5), 5);
            due("it was not shared", x.count(8), 0);
            due("many evenings", x.run(300), 302);
            due("the POT stays", x.count(5), 5);
            due("it was not shared", x.count(8), 0);
            x.build(0, 0);
            x.run(1);
            due("one ahead of it", x.count(5), 5);
            x.run(1);
            purses("with one again", x, 5);
            due("the POT", x.count(5), 0);
            due("it was shared", x.count(8), 1);
        }
    }

    /** "day: the evening's number, from 0 on". */
    private static void days() {
        RingPurses x = Check.of(Check.houses(999) + "pays=day;earns=day;shared alike 1;");
        due("day 0", x.house(0, 4), 0);
        x.run(1);
        due("day 1", x.house(0, 4), 1);
        x.run(299);
        due("day 300", x.house(0, 4), 300);
        due("it earned from day 0 on", x.house(0, 0), 999 + 299 * 300 / 2);
    }

    private static void tells(String law, int want) {
        due(law, Check.of("house a 9999;pays=" + law + ";").house(0, 4), want);
    }

    /** "the E of the first if that holds (one less than the other), else the last one". */
    private static void ifsHold() {
        tells("if 1<2 then 5 else 6", 5);
        tells("if 2<2 then 5 else 6", 6);
        tells("if 3<2 then 5 else 6", 6);
        tells("if 0-1<0 then 5 else 6", 5);
        tells("if 0<0-1 then 5 else 6", 6);
        tells("if 2<2 then 5 else if 2<2 then 6 else if 2<2 then 7 else if 2<2 then 8 else 9", 9);
        tells("if 2<2 then 5 else if 2<2 then 6 else if 2<2 then 7 else if 1<2 then 8 else 9", 8);
        tells("if 2<2 then 5 else if 2<2 then 6 else if 1<2 then 7 else if 1<2 then 8 else 9", 7);
        tells("if 2<2 then 5 else if 1<2 then 6 else if 1<2 then 7 else if 1<2 then 8 else 9", 6);
        tells("if 1<2 then 5 else if 1<2 then 6 else if 1<2 then 7 else if 1<2 then 8 else 9", 5);
    }

    /** "ints of 32 bits that wrap". */
    private static void intsThatWrap() {
        String high = "2047*1024*1024+1023*1024";
        tells("if " + high + "+1022<0 then 1 else 2", 2);
        tells("if " + high + "+1023<0 then 1 else 2", 2);
        tells("if " + high + "+1024<0 then 1 else 2", 1);
        tells("if " + high + "+1025<0 then 1 else 2", 1);
        tells(high + "+1023", 9999);
        tells(high + "+1024", 0);
        String least = "2048*1024*1024";
        tells("if " + least + "<0 then 1 else 2", 1);
        tells("if 2048*1024*1023<0 then 1 else 2", 2);
        tells("if " + least + "-1<0 then 1 else 2", 2);
        tells("if 0-" + least + "<0 then 1 else 2", 1);
        tells("4096*1024*1024+7", 7);
        tells("4096*1024*1024-1", 0);
        tells("9999*9999*22/9999/22", 0);
        tells("9999*9999*21/9999/21", 9999);
        tells("0-(9999*9999*22-9999*9999*21-9999*9999)+3", 3);
        // how far they are apart is more than 32 bits hold
        tells("if " + least + "<" + least + "-1 then 1 else 2", 1);
        tells("if " + least + "-1<" + least + " then 1 else 2", 2);
        tells("if " + least + "/(0-1)<0 then 1 else 2", 1);
        tells("if (" + least + "+1)/(0-1)<0 then 1 else 2", 2);
    }

    /** "/ rounded towards 0". */
    private static void dividedTowardsNought() {
        int[][] cases = {{6, 2}, {7, 2}, {8, 2}, {1, 2}, {0, 2}, {7, 7}, {7, 8}, {7, 1}};
        for (int[] c : cases) {
            tells(c[0] + "/" + c[1] + "+50", 50 + c[0] / c[1]);
            tells("(0-" + c[0] + ")/" + c[1] + "+50", 50 - c[0] / c[1]);
            tells(c[0] + "/(0-" + c[1] + ")+50", 50 - c[0] / c[1]);
            tells("(0-" + c[0] + ")/(0-" + c[1] + ")+50", 50 + c[0] / c[1]);
        }
    }

    /** "a LAW in which something that is looked at is divided by 0 is 0". */
    private static void dividedByNought() {
        tells("7+9/1", 16);
        tells("7+9/0", 0);
        tells("16+9/(0-1)", 7);
        tells("7+0/0", 0);
        tells("7+0*(9/0)", 0);
        tells("7+9/(own-9999)", 0);
        tells("7+9/(own-9998)", 16);
        tells("9/0/1+7", 0);
        tells("9/(1/2)+7", 0);
        tells("9/(2/2)+7", 16);
        tells("if 9/0<1 then 5 else 6", 0);
        tells("if 0<9/0 then 5 else 6", 0);
        tells("if 1<2 then 9/0 else 6", 0);
        tells("if 1<2 then 5 else 9/0", 5);
        tells("if 2<2 then 9/0 else 6", 6);
        tells("if 2<2 then 5 else 9/0", 0);
        tells("if 2<2 then 5 else if 9/0<1 then 6 else 7", 0);
        tells("if 1<2 then 5 else if 9/0<1 then 6 else 7", 5);
        RingPurses x = Check.of(Check.houses(5) + "pays=0;earns=9/day;");
        x.run(1);
        due("EARNS divided by 0", x.house(0, 0), 5);
        x.run(1);
        due("by 1", x.house(0, 0), 14);
    }

    private static void lotsAre(int seed, int day, int... want) {
        StringBuilder text = new StringBuilder("pays=lot;earns=99;shared alike 1;seed ").append(seed).append(';');
        for (int i = 0; i < 10; i++) text.append("house ").append((char) ('a' + i)).append(" 9999;");
        RingPurses x = Check.of(text.toString());
        x.run(day);
        for (int i = 0; i < 10; i++) due("lot of " + i + " on day " + day + " of seed " + seed, x.house(i, 4), want[i]);
    }

    /** "LOT n of a SEED and a which" (worked out by another program, with numbers that do not wrap). */
    private static void lots() {
        lotsAre(0, 0, 35, 65, 88, 47, 51, 46, 89, 14, 61, 88);
        lotsAre(0, 1, 82, 87, 14, 53, 16, 25, 60, 72, 59, 29);
        lotsAre(0, 300, 84, 57, 64, 8, 79, 81, 96, 31, 78, 75);
        lotsAre(1, 0, 15, 57, 38, 43, 38, 6, 83, 98, 49, 50);
        lotsAre(1, 299, 29, 79, 84, 17, 60, 27, 96, 48, 39, 60);
        lotsAre(4999, 299, 49, 67, 32, 21, 12, 44, 49, 72, 5, 99);
        lotsAre(9998, 1, 81, 99, 91, 42, 76, 84, 4, 53, 79, 12);
        lotsAre(9999, 0, 18, 7, 55, 93, 34, 42, 22, 9, 19, 62);
        lotsAre(9999, 1, 87, 13, 21, 26, 0, 73, 12, 51, 97, 40);
        RingPurses x = Check.of(Check.houses(0, 0, 0) + "pays=0;earns=lot;seed 9999;");
        x.run(1);
        purses("lots earned", x, 18, 7, 55);
        x.run(1);
        purses("and on the next day", x, 105, 20, 76);
    }

    /** "Of a HOUSE: what 0 ... 6 ... NONE for others." */
    private static void ofAHouse() {
        RingPurses x = Check.of(Check.houses(10, 4, 7, 1) + "shared alike 2;");
        for (int what = 5; what <= 6; what++) due("ahead of the first evening", x.house(0, what), 0);
        x.run(1);
        x.hide(1, 1);
        int[] first = {7, 0, 7, 0, 0, 3, 3};
        int[] last = {0, 0, 0, 3, 0, 1, 1};
        for (int what = 0; what <= 6; what++) {
            due("house(0, " + what + ")", x.house(0, what), first[what]);
            due("house(3, " + what + ")", x.house(3, what), last[what]);
        }
        for (int house : new int[] {LEAST, -2, -1, 4, 5, 9, 10, GREATEST}) {
            for (int what = -1; what <= 7; what++) due("house(" + house + ", " + what + ")", x.house(house, what), -1);
        }
        for (int what : new int[] {LEAST, -2, -1, 7, 8, GREATEST}) {
            for (int house = 0; house < 4; house++) due("house(" + house + ", " + what + ")", x.house(house, what), -1);
        }
        x.hide(1, 0);
        x.run(1);
        due("paid since, on the evening it is shared", x.house(0, 6), 0);
        due("paid that evening", x.house(0, 5), 1);
        x.hide(0, x.house(0, 0));
        x.run(1);
        due("paid nothing the last evening", x.house(0, 5), 0);
    }

    /** "n evenings (0 .. 300; 0 is no thing done) go by: which it is; NONE, and nothing happens: no such n." */
    private static void runs() {
        RingPurses x = Check.of(Check.houses(10, 4, 7, 1));
        due("run(0)", x.run(0), 0);
        due("run(0) is no thing done", x.count(10), 0);
        due("run(1)", x.run(1), 1);
        due("run(1) is one", x.count(10), 1);
        for (int n : new int[] {LEAST, -300, -2, -1, 301, 302, GREATEST}) {
            due("run(" + n + ")", x.run(n), -1);
            due("the evening", x.count(6), 1);
            due("things done", x.count(10), 1);
        }
        due("run(299)", x.run(299), 300);
        due("run(300)", x.run(300), 600);
        due("each is one thing done", x.count(10), 3);
        due("run(0) later", x.run(0), 600);
        RingPurses one = Check.of(Check.houses(10, 4, 7, 1) + "shared most 3;pays=gap+day/9;earns=2;");
        RingPurses many = Check.of(Check.houses(10, 4, 7, 1) + "shared most 3;pays=gap+day/9;earns=2;");
        one.run(300);
        for (int i = 0; i < 300; i++) many.run(1);
        for (int i = 0; i < 4; i++) {
            for (int what = 0; what <= 6; what++) due("of 300", one.house(i, what), many.house(i, what));
        }
    }

    /** "An object is used for at most 512 calls": what can be earned and be in the POT then is still told rightly. */
    private static void theLongestUse() {
        String rich = Check.houses(9999, 9999, 9999, 9999, 9999, 9999, 9999, 9999, 9999, 9999) + "earns=999;";
        int calls = (rich.length() + 7 + 19) / 20 + 2;
        RingPurses x = Check.of(rich + "pays=0;");
        for (int i = calls; i < 511; i++) x.run(300);
        due("all that can be earned", x.count(7), 10L * (9999 + 999L * 300 * (511 - calls)));
        String taken = rich + "pays=own;shared round 30;";
        calls = (taken.length() + 19) / 20 + 2;
        x = Check.of(taken);
        for (int i = calls; i < 510; i++) x.run(300);
        due("all that can be in the POT", x.count(5) + x.count(7), 10L * (9999 + 999L * 300 * (510 - calls)));
    }

    /** "GIFT of x (0 and more): true; false, and nothing happens: not so much SHOWN, no such ones, one and the same." */
    private static void gifts() {
        for (int hidden : new int[] {0, 3, 10}) {
            int shown = 10 - hidden;
            for (int x : new int[] {LEAST, -1, 0, 1, shown - 1, shown, shown + 1, 10, 11, GREATEST}) {
                RingPurses r = Check.of(Check.houses(10, 4, 0));
                r.hide(0, hidden);
                boolean fine = x >= 0 && x <= shown;
                due("give(0, 2, " + x + ") of " + shown, r.give(0, 2, x), fine);
                purses("give", r, fine ? 10 - x : 10, 4, fine ? x : 0);
                due("things done", r.count(10), fine ? 2 : 1);
                due("what is hidden stays", r.house(0, 1), hidden);
            }
        }
        for (int from : new int[] {LEAST, -1, 0, 1, 2, 3, 10, GREATEST}) {
            for (int to : new int[] {LEAST, -1, 0, 1, 2, 3, 10, GREATEST}) {
                RingPurses r = Check.of(Check.houses(10, 4, 5));
                boolean fine = from >= 0 && from <= 2 && to >= 0 && to <= 2 && from != to;
                due("give(" + from + ", " + to + ", 1)", r.give(from, to, 1), fine);
                due("give(" + from + ", " + to + ", 0)", r.give(from, to, 0), fine);
                due("all stays", r.count(7), 19);
                due("things done", r.count(10), fine ? 2 : 0);
                for (int i = 0; i < 3; i++) {
                    int changed = !fine ? 0 : i == from ? -1 : i == to ? 1 : 0;
                    due("purse of " + i, r.house(i, 0), new int[] {10, 4, 5}[i] + changed);
                }
            }
        }
    }

    /** "HIDE x (0 .. what it has): true; false: no such ones", "instead of what it hid". */
    private static void hiding() {
        for (int before : new int[] {0, 4, 10}) {
            for (int x : new int[] {LEAST, -1, 0, 1, 9, 10, 11, GREATEST}) {
                RingPurses r = Check.of(Check.houses(3, 10));
                r.hide(1, before);
                boolean fine = x >= 0 && x <= 10;
                due("hide(1, " + x + ")", r.hide(1, x), fine);
                due("hides", r.house(1, 1), fine ? x : before);
                due("has", r.house(1, 0), 10);
                due("the other one", r.house(0, 1), 0);
                due("things done", r.count(10), fine ? 2 : 1);
            }
        }
        for (int house : new int[] {LEAST, -1, 2, 3, 10, GREATEST}) {
            RingPurses r = Check.of(Check.houses(3, 10));
            due("hide(" + house + ", 0)", r.hide(house, 0), false);
            due("things done", r.count(10), 0);
        }
        due("hide of a purse of 0", Check.of(Check.houses(0)).hide(0, 0), true);
        due("hide of more", Check.of(Check.houses(0)).hide(0, 1), false);
        due("without houses", new RingPurses().hide(0, 0), false);
    }

    /** "TAKEN: how much; NONE, and nothing happens: no such HOUSE." */
    private static void taking() {
        for (int house : new int[] {LEAST, -1, 0, 1, 2, 3, 10, GREATEST}) {
            RingPurses r = Check.of(Check.houses(5, 5, 5) + "pays=2;");
            r.run(2);
            boolean fine = house >= 0 && house <= 2;
            due("grab(" + house + ")", r.grab(house), fine ? 12 : -1);
            due("the POT", r.count(5), fine ? 0 : 12);
            for (int i = 0; i < 3; i++) due("purse of " + i, r.house(i, 0), i == house ? 13 : 1);
            due("things done", r.count(10), fine ? 2 : 1);
            due("of an empty POT", r.grab(house), fine ? 0 : -1);
            due("is a thing done", r.count(10), fine ? 3 : 1);
        }
        due("without houses", new RingPurses().grab(0), -1);
    }

    /**
     * "BUILT ahead of a HOUSE (how many there are: behind all), with a PURSE (0 .. 9999) ...; NONE, and nothing happens:
     * 10 are there, no such ones."
     */
    private static void building() {
        for (int n = 0; n <= 10; n++) {
            for (int at : new int[] {LEAST, -1, 0, 1, n - 1, n, n + 1, 10, 11, GREATEST}) {
                RingPurses r = Check.of(numbered(n));
                boolean fine = at >= 0 && at <= n && n < 10;
                due("build(" + at + ") with " + n, r.build(at, 7), fine ? n + 1 : -1);
                due("houses", r.count(0), fine ? n + 1 : n);
                due("things done", r.count(10), fine ? 1 : 0);
                for (int i = 0; i < r.count(0); i++) {
                    int want = !fine || i < at ? 1001 + i : i == at ? 7 : 1000 + i;
                    due("purse of " + i, r.house(i, 0), want);
                }
            }
        }
        for (int purse : new int[] {LEAST, -1, 0, 1, 9998, 9999, 10000, GREATEST}) {
            RingPurses r = Check.of(numbered(3));
            boolean fine = purse >= 0 && purse <= 9999;
            due("build of " + purse, r.build(3, purse), fine ? 4 : -1);
            due("its purse", r.house(3, 0), fine ? purse : -1);
            due("things done", r.count(10), fine ? 1 : 0);
        }
        RingPurses r = Check.of(Check.houses(50, 50) + "pays=own/2;");
        r.run(1);
        r.hide(1, 9);
        r.build(1, 6);
        for (int what : new int[] {1, 5, 6}) due("a new HOUSE hides and paid nothing", r.house(1, what), 0);
        due("the one behind it hides", r.house(2, 1), 9);
        due("the one behind it paid", r.house(2, 6), 25);
        r.burn(2);
        r.build(2, 3);
        for (int what : new int[] {1, 5, 6}) due("nor where another one stood", r.house(2, what), 0);
    }

    /** "BURNT: what it had; NONE, and nothing happens: no such one." */
    private static void burning() {
        for (int n = 0; n <= 10; n++) {
            for (int house : new int[] {LEAST, -1, 0, 1, n - 1, n, n + 1, 10, GREATEST}) {
                RingPurses r = Check.of(numbered(n));
                boolean fine = house >= 0 && house < n;
                due("burn(" + house + ") of " + n, r.burn(house), fine ? 1001 + house : -1);
                due("houses", r.count(0), fine ? n - 1 : n);
                due("things done", r.count(10), fine ? 1 : 0);
                for (int i = 0; i < r.count(0); i++) due("purse of " + i, r.house(i, 0), fine && i >= house ? 1002 + i : 1001 + i);
            }
        }
        RingPurses r = Check.of(Check.houses(9, 6));
        r.hide(0, 9);
        r.hide(1, 2);
        due("burn of what is hidden", r.burn(0), 9);
        due("the one behind it hides", r.house(0, 1), 2);
        due("the last one", r.burn(0), 6);
        due("none", r.burn(0), -1);
    }

    private static RingPurses tenThatPaid() {
        RingPurses r = Check.of(Check.houses(200, 202, 204, 206, 208, 210, 212, 214, 216, 218) + "pays=own/2;");
        r.run(1);
        r.run(1);
        for (int i = 0; i < 10; i++) r.hide(i, i);
        return r;
    }

    private static void isThatOf(String when, RingPurses r, int now, RingPurses before, int then) {
        for (int what : new int[] {0, 1, 5, 6}) due(when + ": house(" + now + ", " + what + ")", r.house(now, what), before.house(then, what));
    }

    /** "HOUSES are numbered from 0 on as they stand now": with what they have, hide and paid. */
    private static void numbersAsTheyStand() {
        RingPurses before = tenThatPaid();
        for (int at = 0; at < 10; at++) {
            RingPurses r = tenThatPaid();
            r.burn(at);
            for (int i = 0; i < 9; i++) isThatOf("burn " + at, r, i, before, i < at ? i : i + 1);
            for (int what = 0; what <= 6; what++) due("none behind", r.house(9, what), -1);
            r.build(at, 7);
            for (int i = 0; i < 10; i++) {
                if (i != at) isThatOf("build " + at, r, i, before, i);
            }
            for (int what : new int[] {1, 5, 6}) due("the new one", r.house(at, what), 0);
            r.undo();
            r.undo();
            for (int i = 0; i < 10; i++) isThatOf("undone " + at, r, i, before, i);
            r.join(at);
            int gone = at == 9 ? 9 : at + 1;
            int kept = at == 9 ? 0 : at;
            for (int i = 0; i < 9; i++) {
                if (i != kept) isThatOf("join " + at, r, i, before, i < gone ? i : i + 1);
            }
        }
    }

    /** "JOINED: a HOUSE and the one behind it (of the last one of a ring: HOUSE 0) are one, in the place of the one with the lesser number". */
    private static void joiningInARing() {
        for (int n = 0; n <= 10; n++) {
            for (int house : new int[] {LEAST, -1, 0, 1, n - 2, n - 1, n, n + 1, 10, GREATEST}) {
                RingPurses r = Check.of(numbered(n));
                boolean fine = house >= 0 && house < n && n >= 2;
                int other = house == n - 1 ? 0 : house + 1;
                int both = 2002 + house + other;
                due("join(" + house + ") of " + n, r.join(house), fine ? both : -1);
                due("houses", r.count(0), fine ? n - 1 : n);
                due("things done", r.count(10), fine ? 1 : 0);
                for (int i = 0; i < r.count(0); i++) {
                    int gone = Math.max(house, other);
                    int want = !fine || i < gone ? 1001 + i : 1002 + i;
                    due("purse of " + i, r.house(i, 0), fine && i == Math.min(house, other) ? both : want);
                }
            }
        }
    }

    /** "NONE, and nothing happens: no such one, in a street the last one, less than two." */
    private static void joiningInAStreet() {
        for (int n = 0; n <= 10; n++) {
            for (int house : new int[] {LEAST, -1, 0, n - 2, n - 1, n, GREATEST}) {
                RingPurses r = Check.of("street;" + numbered(n));
                boolean fine = house >= 0 && house < n - 1;
                due("join(" + house + ") in a street of " + n, r.join(house), fine ? 2003 + 2 * house : -1);
                due("houses", r.count(0), fine ? n - 1 : n);
                due("things done", r.count(10), fine ? 1 : 0);
            }
        }
    }

    /** "with what both have and hide, and paid". */
    private static void joiningBoth() {
        int[][] want = {{20 + 80, 3 + 9, 20 + 80, 40 + 160}, {80 + 40, 9 + 4, 80 + 40, 160 + 80}, {40 + 20, 4 + 3, 40 + 20, 80 + 40}};
        for (int house = 0; house < 3; house++) {
            RingPurses r = Check.of(Check.houses(60, 240, 120) + "pays=if day<1 then own/3 else own/2;");
            r.run(2);
            r.hide(0, 3);
            r.hide(1, 9);
            r.hide(2, 4);
            r.join(house);
            int place = house == 2 ? 0 : house;
            int[] what = {0, 1, 5, 6};
            for (int i = 0; i < 4; i++) due("joined " + house + ": " + what[i], r.house(place, what[i]), want[house][i]);
        }
        RingPurses r = Check.of(Check.houses(5, 4) + "pays=own;");
        r.join(1);
        due("left alone it sees itself", r.house(0, 4), 9);
    }

    /** "The last thing done (all but questions) is undone: true; false: there is none". */
    private static void undoing() {
        due("undo of a new object", new RingPurses().undo(), false);
        RingPurses x = Check.of(Check.houses(10, 4, 7, 1));
        due("undo behind a text", x.undo(), false);
        x.run(1);
        String one = Whole.now(x);
        x.hide(0, 1);
        due("undo", x.undo(), true);
        due("one ahead", Whole.now(x).equals(one), true);
        due("undo", x.undo(), true);
        due("undo of none", x.undo(), false);
        purses("as told", x, 10, 4, 7, 1);
        RingPurses none = new RingPurses();
        none.build(0, 5);
        none.burn(0);
        due("undo of the last HOUSE burnt", none.undo(), true);
        purses("it stands again", none, 5);
        due("undo of the first HOUSE built", none.undo(), true);
        due("none stands", none.count(0), 0);
        due("undo of none", none.undo(), false);
        none.run(5);
        due("undo of evenings without HOUSES", none.undo(), true);
        due("the evening", none.count(6), 0);
    }

    /** "(the last 30 can be)". */
    private static void undoingTheLast30() {
        for (int done : new int[] {0, 1, 29, 30, 31, 32, 61, 90}) {
            RingPurses x = Check.of(Check.houses(9000) + "pays=1;");
            for (int i = 0; i < done; i++) x.run(1);
            int can = Math.min(done, 30);
            due("things that can be undone behind " + done, x.count(10), can);
            for (int i = 1; i <= can; i++) {
                due("undo " + i + " of " + done, x.undo(), true);
                due("the evening", x.count(6), done - i);
                due("things left", x.count(10), can - i);
            }
            due("undo of one more", x.undo(), false);
            due("the evening stays", x.count(6), done - can);
            due("none left", x.count(10), 0);
        }
    }

    private static void undoingAroundTheEnd() {
        RingPurses x = Check.of(Check.houses(100));
        for (int i = 1; i <= 40; i++) x.hide(0, i);
        for (int i = 0; i < 10; i++) x.undo();
        due("20 are left", x.count(10), 20);
        for (int i = 51; i <= 60; i++) x.hide(0, i);
        due("30 can be", x.count(10), 30);
        for (int i = 59; i >= 51; i--) {
            x.undo();
            due("hidden", x.house(0, 1), i);
        }
        for (int i = 30; i >= 10; i--) {
            due("undo", x.undo(), true);
            due("hidden ahead of these", x.house(0, 1), i);
        }
        due("no more", x.undo(), false);
        due("hidden", x.house(0, 1), 10);
    }
}
