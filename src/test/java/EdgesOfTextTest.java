/**
 * The edges that part I of the terms and promises 1 to 5 name, each at the case itself and at its neighbours.
 * The sentence of the document that a test is for stands above it.
 */
final class EdgesOfTextTest {
    private static final int LEAST = Integer.MIN_VALUE;
    private static final int GREATEST = Integer.MAX_VALUE;
    private static final String[] WORDS = {"house", "street", "turns", "pays", "earns", "shared", "alike", "most", "round",
        "seed", "if", "then", "else", "left", "right", "own", "gap", "day", "lot", "pot"};

    public static void main(String[] args) {
        aTextHas2000Bytes();
        feedPutsTheHighestFirst();
        feedToTheFull();
        whatFeedRefusesDoesNotCome();
        backToTheEmpty();
        theTapeIsEmptyThen();
        placeOfTheLatestRead();
        blanks();
        tokensWithoutBlanks();
        signsOfNames();
        lengthsOfNames();
        wordsInQuotesAreNoNames();
        tokensAreTheLongest();
        signsOfInts();
        lengthsOfInts();
        signs();
        tellsThatEndEarly();
        houses();
        purses();
        sharedEvenings();
        seeds();
        whatIsNotTold();
        whatTheTextsAheadTold();
        ofSeveralTheLastOne();
        places();
        tokensInAll();
        ofOnePlaceTheLeast();
        ifsOfALaw();
        parensWithinOneAnother();
        whatStandsAheadOfParens();
        behindALawThatEndsEarly();
        twice();
        twiceAndWrongOnlyIfThereIsNone();
        aFaultChangesNothingButTheTape();
        inPlaceOfTheOneAhead();
        aNewObject();
        Check.end();
    }

    private static void due(String call, long got, long want) {
        Check.due(call, got, want);
    }

    private static String houses(int n) {
        StringBuilder s = new StringBuilder();
        for (int i = 0; i < n; i++) s.append("house ").append((char) ('a' + i)).append(" 1;");
        return s.toString();
    }

    /** A text of just so many tokens, each of them fine. */
    private static String ofTokens(int n) {
        return n % 2 == 0 ? "street;".repeat(n / 2) : "street;".repeat((n - 3) / 2) + "seed 1;";
    }

    /** "A TEXT has 2,000 bytes at most." */
    private static void aTextHas2000Bytes() {
        due("1999 bytes", Check.of(" ".repeat(1992) + "street;").count(1), 1);
        due("2000 bytes", Check.of(" ".repeat(1993) + "street;").count(1), 1);
        Check.fault(" ".repeat(1993) + "street", 1, 1999);
        Check.fault(" ".repeat(1994) + "street", 1, 2000);
        Check.fault(" ".repeat(1998) + "#", 1, 1998);
        Check.fault(" ".repeat(1999) + "#", 1, 1999);
        Check.fault("#" + " ".repeat(1999), 1, 0);
        due("2000 blanks", Check.read(new RingPurses(), "\t".repeat(2000)), 0);
        due("1 byte", Check.read(new RingPurses(), " "), 0);
        due("0 bytes", new RingPurses().read(), 0);
    }

    /** "Twenty bytes, the highest of a first, come behind the tape: how many it has." */
    private static void feedPutsTheHighestFirst() {
        RingPurses x = new RingPurses();
        // "house abcdefgh 1234;"
        due("feed", x.feed(0x686f7573, 0x65206162, 0x63646566, 0x67682031, 0x3233343b), 20);
        due("read", x.read(), 0);
        due("purse", x.house(0, 0), 1234);
        for (int at = 0; at < 20; at++) {
            int[] words = {0x20202020, 0x20202020, 0x20202020, 0x20202020, 0x20202020};
            // all bits set: a byte that is no token, whatever its sign counts for
            words[at / 4] |= 255 << (24 - 8 * (at % 4));
            due("feed", x.feed(words[0], words[1], words[2], words[3], words[4]), 20);
            due("read of a byte 255 at " + at, x.read(), 1);
            due("place", x.place(), at);
        }
    }

    /** "NONE, and nothing comes, if it would have more than 2,000." */
    private static void feedToTheFull() {
        for (int has : new int[] {0, 1, 19, 20, 1960, 1979, 1980, 1981, 1982, 1999, 2000}) {
            RingPurses x = new RingPurses();
            Check.feed(x, " ".repeat(has));
            int want = has <= 1980 ? has + 20 : -1;
            due("feed behind " + has, x.feed(LEAST, -1, 0, 1, GREATEST), want);
            due("tape", x.count(9), Math.max(has, want));
        }
    }

    private static void whatFeedRefusesDoesNotCome() {
        for (int has : new int[] {1981, 1990, 2000}) {
            RingPurses x = new RingPurses();
            Check.feed(x, "street;" + " ".repeat(has - 7));
            due("feed behind " + has, x.feed(-1, -1, -1, -1, -1), -1);
            if (has == 1981) {
                due("back", x.back(1), 1980);
                due("feed behind 1980", x.feed(0x20202020, 0x20202020, 0x20202020, 0x20202020, 0x20202020), 2000);
            }
            due("read", x.read(), 0);
            due("street", x.count(1), 1);
        }
        RingPurses x = new RingPurses();
        x.feed(-1, -1, -1, -1, -1);
        x.back(20);
        due("feed in place of what went", x.feed(0x7475726e, 0x733b2020, 0x20202020, 0x20202020, 0x20202020), 20);
        due("read", x.read(), 0);
        due("turns", x.count(2), 1);
    }

    /** "The last n bytes of the tape go: how many it has. NONE, and nothing goes, if it has not so many, or n is below 0." */
    private static void backToTheEmpty() {
        for (int has : new int[] {0, 1, 20, 1999, 2000}) {
            for (int n : new int[] {LEAST, -2, -1, 0, 1, has - 1, has, has + 1, has + 20, GREATEST}) {
                RingPurses x = new RingPurses();
                Check.feed(x, " ".repeat(has));
                int want = n < 0 || n > has ? -1 : has - n;
                due("back(" + n + ") of " + has, x.back(n), want);
                due("tape", x.count(9), want < 0 ? has : want);
            }
        }
        RingPurses x = new RingPurses();
        Check.feed(x, "street;turns;");
        due("back(5)", x.back(5), 8);
        Check.feed(x, ";");
        due("the last bytes went", x.read(), 1);
        due("place behind the first ones", x.place(), 7);
    }

    /** "The tape, which is empty then, is read: 0, or the number of its FAULT." */
    private static void theTapeIsEmptyThen() {
        for (String text : new String[] {"", "street;", "street", "house a 1;house a 1;", "shared most 31;"}) {
            RingPurses x = new RingPurses();
            Check.read(x, text);
            due("the tape behind " + text, x.count(9), 0);
            due("back(1)", x.back(1), -1);
            due("back(0)", x.back(0), 0);
            due("read of the empty tape", x.read(), 0);
            due("place", x.place(), -1);
            due("an empty text", x.count(0) + x.count(1), 0);
        }
    }

    /** "The byte of the latest read()'s FAULT; NONE without." */
    private static void placeOfTheLatestRead() {
        RingPurses x = new RingPurses();
        due("place of no read", x.place(), -1);
        Check.read(x, "#");
        due("place of byte 0", x.place(), 0);
        Check.read(x, " #");
        due("place of byte 1", x.place(), 1);
        x.run(1);
        Check.feed(x, "street;");
        due("place stays until the next read", x.place(), 1);
        x.read();
        due("place without", x.place(), -1);
        Check.read(x, "house a 1; house a 2;");
        due("place of 3", x.place(), 17);
        Check.read(x, "shared most 0;");
        due("place of 5", x.place(), 12);
        Check.read(x, "");
        due("place of an empty text", x.place(), -1);
    }

    private static boolean isBlank(int b) {
        return b == 9 || b == 10 || b == 13 || b == 32;
    }

    private static boolean isLetter(int b) {
        return b >= 'a' && b <= 'z';
    }

    private static boolean isDigit(int b) {
        return b >= '0' && b <= '9';
    }

    /** A text that is fine (no place) or has a SYNTAX at a place. */
    private static void syntax(String text, int place) {
        RingPurses x = new RingPurses();
        String shown = text.length() > 80 ? text.substring(0, 80) + ".." : text;
        due("read of " + shown, Check.read(x, text), place < 0 ? 0 : 1);
        due("place in " + shown, x.place(), place);
    }

    /** "with blanks (9, 10, 13, 32) between or not", "all else, is no TOKEN": every byte, for the neighbours of all. */
    private static void blanks() {
        for (int b = 0; b < 256; b++) {
            syntax("" + (char) b, isBlank(b) ? -1 : 0);
            int place = isLetter(b) ? 0 : b == ';' ? 7 : 6;
            syntax("street" + (char) b + ";", isBlank(b) ? -1 : place);
            syntax("street;" + (char) b, isBlank(b) ? -1 : 7);
            if (!isLetter(b)) syntax((char) b + "street;", isBlank(b) ? -1 : 0);
        }
        for (char blank : new char[] {9, 10, 13, 32}) {
            String every = " house a 1 ; pays = if left < 2 then ( own + 1 ) * 3 else gap ; ".replace(' ', blank);
            due("blanks " + (int) blank, Check.of(every).house(0, 4), 1);
        }
        due("all of them", Check.of(" \t\r\n street\n\r\t ;\n \r\t").count(1), 1);
    }

    private static void tokensWithoutBlanks() {
        due("no blanks", Check.of("house a9;street;turns;pays=if2<3then4else5;shared round9;seed7;").house(0, 4), 4);
        due("and none needed behind an INT", Check.of("house a 9;pays=if 2<1 then 4else5;").house(0, 4), 5);
        syntax("house a9house b9;", 8);
        syntax("housea 9;", 0);
        syntax("street turns;", 7);
    }

    /** "NAMES (letters a .. z": every byte as a NAME, and behind one. */
    private static void signsOfNames() {
        for (int b = 0; b < 256; b++) {
            syntax("house " + (char) b + " 1;", isLetter(b) ? -1 : isBlank(b) ? 8 : 6);
            int behind = isLetter(b) || isBlank(b) ? -1 : isDigit(b) ? 9 : 7;
            syntax("house a" + (char) b + " 1;", behind);
        }
    }

    /** "8 at most". */
    private static void lengthsOfNames() {
        for (int n = 1; n <= 12; n++) syntax("house " + "q".repeat(n) + " 1;", n <= 8 ? -1 : 6);
        syntax("house " + "q".repeat(1900) + " 1;", 6);
        syntax("pays=abcdefgh;", 5);
        syntax("pays=abcdefghi;", 5);
        syntax("abcdefghi", 0);
    }

    /** "none of the words in quotes". */
    private static void wordsInQuotesAreNoNames() {
        for (String word : WORDS) {
            syntax("house " + word + " 1;", 6);
            syntax("house " + word + "a 1;", -1);
            syntax("house a" + word + " 1;", -1);
            syntax("house " + word.substring(1) + " 1;", -1);
            syntax("house " + word.substring(0, word.length() - 1) + " 1;", -1);
        }
    }

    /** "TOKENS, the longest that can be": what is one token is not two. */
    private static void tokensAreTheLongest() {
        syntax("streets;", 0);
        syntax("house housea 1;", -1);
        syntax("house a 12 34;", 11);
        syntax("house a 1234 5;", 13);
        syntax("house a 12345;", 8);
        syntax("pays=ifleft<1 then 1 else 1;", 5);
        syntax("pays=if 1<2 then1 else 1;", -1);
        syntax("pays=if 1<2 thenown else 1;", 12);
        syntax("pays=if 1<2 then own elseown;", 21);
    }

    private static void signsOfInts() {
        for (int b = 0; b < 256; b++) {
            syntax("house a " + (char) b + ";", isDigit(b) ? -1 : isBlank(b) ? 9 : 8);
            int behind = isDigit(b) || isBlank(b) ? -1 : b == ';' ? 10 : 9;
            syntax("house a 7" + (char) b + ";", behind);
        }
    }

    /** "INTS (1 to 4 digits)", "A longer one ... is no TOKEN". */
    private static void lengthsOfInts() {
        for (int n = 1; n <= 7; n++) {
            syntax("house a " + "0".repeat(n) + ";", n <= 4 ? -1 : 8);
            syntax("house a " + "9".repeat(n) + ";", n <= 4 ? -1 : 8);
            syntax("seed " + "0".repeat(n) + ";", n <= 4 ? -1 : 5);
            syntax("pays=" + "1".repeat(n) + ";", n <= 4 ? -1 : 5);
            syntax("shared alike " + "0".repeat(n - 1) + "7;", n <= 4 ? -1 : 13);
        }
        syntax("house a ;", 8);
        due("what stands ahead counts nothing", Check.of("house a 0070;").house(0, 0), 70);
    }

    /** "SIGNS ; = + - * / < ( )": every byte between two INTS. */
    private static void signs() {
        for (int b = 0; b < 256; b++) {
            boolean fine = isDigit(b) || b == '+' || b == '-' || b == '*' || b == '/';
            syntax("pays=7" + (char) b + "2;", fine ? -1 : isBlank(b) || b == ';' ? 7 : 6);
            boolean opens = b == '(' || isDigit(b) || isBlank(b);
            syntax("pays=" + (char) b + "2" + (b == '(' ? ");" : ";"), opens ? -1 : 5);
        }
    }

    /** "SYNTAX: a TOKEN, or what is none, with which no text goes on": the end behind each token of a text, and each left out. */
    private static void tellsThatEndEarly() {
        String[] tells = {"house a 1 ;", "street ;", "turns ;", "pays = own ;", "earns = 1 + gap * ( 2 - 1 ) ;",
            "shared alike 3 ;", "seed 5 ;", "pays = if 1 < 2 then 3 else 4 ;"};
        for (String tell : tells) {
            syntax(tell, -1);
            String[] tokens = tell.split(" ");
            String ahead = "";
            for (int i = 0; i + 1 < tokens.length; i++) {
                ahead += tokens[i] + " ";
                syntax(ahead, ahead.length());
                syntax(ahead.trim(), ahead.trim().length());
                syntax("turns;" + ahead + "# ;", 6 + ahead.length());
                syntax(ahead + "house b 1;", ahead.length());
            }
        }
        syntax(";", 0);
        syntax("street;;", 7);
        syntax("street;a", 7);
        syntax("street;7", 7);
    }

    /** "HOUSES, 10 at most", "an 11th house (at its first TOKEN)". */
    private static void houses() {
        for (int n = 0; n <= 10; n++) due(n + " houses", Check.of(houses(n)).count(0), n);
        Check.fault(houses(11), 2, 100);
        Check.fault(houses(12), 2, 100);
        Check.fault(houses(10) + "  house", 2, 102);
        Check.fault(houses(10) + "house #", 2, 100);
        Check.fault(houses(10) + "house a 1;", 2, 100);
        Check.fault(houses(10) + "house k 1;street", 2, 100);
        Check.fault(houses(10) + "street;house k 1;", 2, 107);
        Check.fault(houses(9) + "house", 1, 95);
        Check.fault(houses(10) + "hous k 1;", 1, 100);
        due("10 and more of others", Check.of(houses(10) + "street;turns;seed 1;").count(0), 10);
    }

    /** "a PURSE 0 .. 9999". */
    private static void purses() {
        for (int purse : new int[] {0, 1, 9, 10, 99, 100, 999, 1000, 9998, 9999}) {
            due("purse", Check.of("house a " + purse + ";").house(0, 0), purse);
        }
        syntax("house a 10000;", 8);
        syntax("house a -1;", 8);
        RingPurses x = Check.of("house a 3;house b 0;house c 9999;");
        due("as they are told: first", x.house(0, 0), 3);
        due("second", x.house(1, 0), 0);
        due("third", x.house(2, 0), 9999);
    }

    /** "each how many evenings, 1 .. 30", "WRONG (at the INT): evenings not 1 .. 30". */
    private static void sharedEvenings() {
        String[] hows = {"alike", "most", "round"};
        for (int how = 0; how < 3; how++) {
            String ahead = "shared " + hows[how] + " ";
            for (int n = 0; n <= 33; n++) {
                if (n < 1 || n > 30) {
                    Check.fault(ahead + n + ";", 5, ahead.length());
                    continue;
                }
                RingPurses x = Check.of(ahead + n + ";");
                due(ahead + n, x.count(4), n);
                due("how", x.count(3), how);
            }
            Check.fault(ahead + " 9999;", 5, ahead.length() + 1);
            Check.fault(ahead + "0000;", 5, ahead.length());
            Check.fault(ahead + "00001;", 1, ahead.length());
            due("0030", Check.of(ahead + "0030;").count(4), 30);
            due("0001", Check.of(ahead + "0001;").count(4), 1);
        }
    }

    /** "SEED 0 .. 9999 (0)". */
    private static void seeds() {
        int[] seeds = {0, 1, 9998, 9999};
        int[] lots = {35, 15, 76, 18};
        for (int i = 0; i < 4; i++) {
            due("seed " + seeds[i], Check.of("house a 99;pays=lot;seed " + seeds[i] + ";").house(0, 4), lots[i]);
        }
        due("no seed", Check.of("house a 99;pays=lot;").house(0, 4), 35);
        syntax("seed 10000;", 5);
        syntax("seed -1;", 5);
    }

    /** "PAYS (gap, if not told), EARNS (0)", "alike and 7 if not told", "SEED ... (0)": also behind a text that told others. */
    private static void whatIsNotTold() {
        RingPurses x = Check.of("street;turns;pays=1;earns=2;shared most 3;seed 4;");
        due("read", Check.read(x, "house a 50;house b 4;house c 7;"), 0);
        due("a ring", x.count(1), 0);
        due("all at once", x.count(2), 0);
        due("alike", x.count(3), 0);
        due("7", x.count(4), 7);
        due("pays gap", x.house(0, 4), 3);
        x.run(6);
        due("not shared behind 6", x.count(8), 0);
        x.run(1);
        due("shared behind 7", x.count(8), 1);
        due("earns 0", x.count(7) + x.count(5), 61);
        String three = "house a 50;house b 4;house c 7;";
        Whole.same("told as if not told", Check.of(three), Check.of(three + "pays=gap;earns=0;shared alike 7;seed 0;"));
        Whole.same("lot of a seed not told", Check.of("house a 50;house b 40;pays=lot/9;"),
            Check.of("seed 0;house a 50;house b 40;pays=lot/9;"));
    }

    /** Nor does it stay told by any of the texts ahead, fine or not. */
    private static void whatTheTextsAheadTold() {
        String other = "house q 1;house r 2;street;turns;pays=if 1<2 then 3 else lot;earns=lot+2;shared round 3;seed 4;";
        String three = "house a 50;house b 4;house c 7;";
        for (String told : new String[] {three, three + "pays=lot/9;", three + "earns=lot/9;", three + "street;", "", "turns;" + three}) {
            for (int ahead = 1; ahead <= 3; ahead++) {
                RingPurses x = new RingPurses();
                RingPurses y = new RingPurses();
                for (int i = 0; i < ahead; i++) {
                    Check.read(x, other);
                    Check.read(y, other + "#");
                }
                due("read", Check.read(x, told), 0);
                Whole.same("behind " + ahead + " texts: " + told, x, Check.of(told));
                due("read", Check.read(y, told), 0);
                Whole.same("behind " + ahead + " texts with a FAULT: " + told, y, Check.of(told));
            }
        }
    }

    /** "Of several the last one." */
    private static void ofSeveralTheLastOne() {
        String two = "house a 900;house b 40;";
        Whole.same("pays", Check.of(two + "pays=1;pays=if 1<2 then 9 else 4;pays=lot/4;"), Check.of(two + "pays=lot/4;"));
        Whole.same("pays without a lot", Check.of(two + "pays=lot;pays=3;"), Check.of(two + "pays=3;"));
        Whole.same("earns", Check.of("earns=lot;earns=7;earns=left/9;" + two), Check.of(two + "earns=left/9;"));
        Whole.same("shared", Check.of(two + "pays=3;shared most 2;shared round 3;"), Check.of(two + "pays=3;shared round 3;"));
        Whole.same("seed", Check.of("seed 1;pays=lot;" + two + "seed 2;"), Check.of(two + "pays=lot;seed 2;"));
        Whole.same("street", Check.of("street;street;turns;turns;turns;" + two), Check.of("turns;street;" + two));
    }

    /** "the first by its place (a byte; the text's end: its length)". */
    private static void places() {
        Check.fault("#", 1, 0);
        Check.fault(" #", 1, 1);
        Check.fault("a #", 1, 0);
        Check.fault("street", 1, 6);
        Check.fault("street ", 1, 7);
        Check.fault("street;turn;#", 1, 7);
        Check.fault("house a 1", 1, 9);
        Check.fault("house a 1;house b", 1, 17);
        Check.fault(houses(11) + "#", 2, 100);
        Check.fault("#" + houses(11), 1, 0);
        Check.fault("pays=(((((((1)))))));" + houses(11), 2, 11);
        Check.fault(houses(11) + "pays=(((((((1)))))));", 2, 100);
        Check.fault("house a 1;house a 1;house a 1;", 3, 16);
        Check.fault("shared most 0;shared most 31;", 5, 12);
        Check.fault("shared most 30;shared most 31;shared most 0;", 5, 27);
    }

    /** "a 401st TOKEN". */
    private static void tokensInAll() {
        for (int n : new int[] {398, 399, 400}) syntax(ofTokens(n), -1);
        Check.fault(ofTokens(401), 2, 199 * 7 + 6);
        Check.fault(ofTokens(402), 2, 200 * 7);
        Check.fault(ofTokens(403), 2, 200 * 7);
        Check.fault(ofTokens(501), 2, 200 * 7);
        Check.fault(ofTokens(400) + " \n turns;", 2, 1403);
        Check.fault(ofTokens(399) + "turns;", 2, 198 * 7 + 7 + 5);
        Check.fault(ofTokens(398) + "house a 1;", 2, 199 * 7 + 8);
        Check.fault(ofTokens(397) + "house a 1;", 2, 197 * 7 + 7 + 9);
        syntax(ofTokens(396) + "house a 1;", -1);
        syntax(ofTokens(394) + "pays=1+1;", -1);
        syntax("pays=1" + "+1".repeat(198) + ";", -1);
        Check.fault("pays=1" + "+1".repeat(199) + ";", 2, 5 + 398);
        Check.fault("pays=" + "(1)+".repeat(99) + "(1);", 2, 5 + 398);
        due("all of 400 tokens are looked at", Check.of("pays=1" + "+1".repeat(195) + ";street;house a 999;").house(0, 4), 196);
    }

    /** "of one place the least": SYNTAX ahead of ROOM; what is no TOKEN, or the end, is none of the 401. */
    private static void ofOnePlaceTheLeast() {
        Check.fault(ofTokens(400) + "#", 1, 1400);
        Check.fault(ofTokens(400) + ";", 1, 1400);
        Check.fault(ofTokens(400) + "abcdefghi", 1, 1400);
        Check.fault(ofTokens(400) + "12345;", 1, 1400);
        Check.fault(ofTokens(400) + "turn;", 1, 1400);
        Check.fault(ofTokens(400) + "7;", 1, 1400);
        Check.fault(ofTokens(399) + "turns turns;", 1, 198 * 7 + 7 + 5 + 1);
        Check.fault(ofTokens(399) + "turns", 1, 198 * 7 + 7 + 5);
        Check.fault(ofTokens(399) + "turns;;", 2, 198 * 7 + 7 + 5);
        Check.fault("pays=(((((( #", 1, 12);
        Check.fault("pays=((((((1(", 1, 12);
        Check.fault("pays=" + "if 1<1 then 1 else ".repeat(4) + "1 if", 1, 5 + 4 * 19 + 2);
        Check.fault("pays=" + "if 1<1 then 1 else ".repeat(3) + "if 1<1 then if", 1, 5 + 3 * 19 + 12);
        Check.fault(houses(10) + ofTokens(360) + "house", 2, 100 + 180 * 7);
    }

    /** "a 5th if of a LAW (at it)". */
    private static void ifsOfALaw() {
        String branch = "if own<1 then 2 else ";
        for (String law : new String[] {"pays=", "earns="}) {
            for (int n = 0; n <= 4; n++) syntax(law + branch.repeat(n) + "3;", -1);
            for (int n = 5; n <= 7; n++) Check.fault(law + branch.repeat(n) + "3;", 2, law.length() + 4 * branch.length());
            Check.fault(law + branch.repeat(4) + "if", 2, law.length() + 4 * branch.length());
            Check.fault(law + branch.repeat(4) + "if #", 2, law.length() + 4 * branch.length());
            Check.fault(law + branch.repeat(3) + "if", 1, law.length() + 3 * branch.length() + 2);
        }
        syntax("pays=" + branch.repeat(4) + "1;earns=" + branch.repeat(4) + "1;pays=" + branch.repeat(4) + "1;", -1);
        RingPurses x = Check.of("house a 99;pays=if day<1 then 5 else if day<2 then 6 else if day<3 then 7 else if day<4 then 8 else 9;");
        for (int day = 0; day <= 5; day++) {
            due("the one that holds on day " + day, x.house(0, 4), Math.min(5 + day, 9));
            x.run(1);
        }
    }

    /** "a 7th ( within one another (at it)". */
    private static void parensWithinOneAnother() {
        for (String law : new String[] {"pays=", "earns=", "pays=1+", "pays=if 1<", "earns=if 1<2 then "}) {
            String behind = law.contains("then") ? " else 1;" : law.contains("if") ? " then 1 else 1;" : ";";
            for (int n = 1; n <= 6; n++) syntax(law + "(".repeat(n) + "1" + ")".repeat(n) + behind, -1);
            for (int n = 7; n <= 9; n++) Check.fault(law + "(".repeat(n) + "1" + ")".repeat(n) + behind, 2, law.length() + 6);
        }
        syntax("pays=" + "(1)+".repeat(9) + "1;", -1);
        syntax("pays=((((((1))))))*((((((1))))));", -1);
        String five = "(((((1)))))";
        syntax("pays=(" + five + "+" + five + ");", -1);
        Check.fault("pays=(" + five + "+(" + five + "));", 2, 6 + 11 + 1 + 5);
        Check.fault("pays=(" + five + ")*((" + five + "));", 2, 5 + 13 + 1 + 6);
        Check.fault("pays=(" + five + ");earns=((" + five + "));", 2, 19 + 6 + 6);
        for (int n = 1; n <= 6; n++) {
            for (String law : new String[] {"pays=", "earns=if ", "pays=if 1<", "earns=if 1<2 then "}) {
                String ahead = law + "(".repeat(n) + "7" + ")".repeat(n - 1);
                for (String behind : new String[] {";", "<", " then", " else", "(", "=", "own", ""}) {
                    syntax(ahead + behind, ahead.length() + (behind.startsWith(" ") ? 1 : 0));
                }
            }
            syntax("pays=" + "(".repeat(n) + "7" + ")".repeat(n + 1) + ";", 6 + 2 * n);
            syntax("pays=" + "(".repeat(n) + ")", 5 + n);
        }
        syntax("pays=(((((1)))));earns=((((((1))))));", -1);
    }

    private static final String DEEP = "1+2*(1+2*(1+2*(1+2*(1+2*(1+2*(1+2*3))))))";
    private static final String DEEPER = "1+2*(1+2*(1+2*(1+2*(1+2*(1+2*(1+2*4))))))";

    private static void tells(String law, int want) {
        due(law, Check.of("house a 9999;pays=" + law + ";").house(0, 4), want);
    }

    /** Six ( with all that can stand ahead of each of them are still told rightly. */
    private static void whatStandsAheadOfParens() {
        tells(DEEP, 511);
        tells(DEEPER, 639);
        tells("if " + DEEP + "<" + DEEPER + " then 7 else 8", 7);
        tells("if " + DEEPER + "<" + DEEP + " then 7 else 8", 8);
        tells("if 2<1 then 0 else ".repeat(3) + "if " + DEEP + "<" + DEEPER + " then " + DEEPER + " else 8", 639);
        tells("9-(8-(7-(6-(5-(4-(3-2))))))", 9 - (8 - (7 - (6 - (5 - (4 - (3 - 2)))))));
        tells("99/(9/(8/(7/(6/(5/(4/2))))))", 49);
        tells("((((((1+2)*3-4)*5-6)*7-8)*2-9)*2-1)*3", 1443);
    }

    /** A LAW in which a text ends leaves nothing behind for the next one. */
    private static void behindALawThatEndsEarly() {
        for (String early : new String[] {"pays=1+2*(", "pays=((((((", "pays=(1+(2*3", "earns=if (((1<2", "pays=7*(6-(5*#", "pays=(((((((1"}) {
            RingPurses x = new RingPurses();
            Check.read(x, early);
            due("a law behind " + early, Check.read(x, "house a 99;pays=7;"), 0);
            due("tells", x.house(0, 4), 7);
            Check.read(x, early);
            due("six ( behind " + early, Check.read(x, "house a 99;pays=((((((1+2))))));"), 0);
            due("tells", x.house(0, 4), 3);
            Check.read(x, early);
            due("a ) too many behind " + early, Check.read(x, "pays=7);"), 1);
            due("place", x.place(), 6);
            for (int i = 0; i < 9; i++) Check.read(x, early);
            due("the deepest behind many of " + early, Check.read(x, "house a 999;pays=" + DEEP + ";"), 0);
            due("tells", x.house(0, 4), 511);
        }
    }

    /** "TWICE: a NAME told already." */
    private static void twice() {
        for (int n = 2; n <= 10; n++) {
            String ahead = houses(n - 1);
            for (char again = 'a'; again < 'a' + n - 1; again++) {
                Check.fault(ahead + "house " + again + " 2;", 3, ahead.length() + 6);
            }
            syntax(ahead + "house z 2;", -1);
        }
        syntax("house a 1;house aa 1;house aaaaaaaa 1;house aaaaaaa 1;", -1);
        syntax("house abcdefgh 1;house abcdefgi 1;house bbcdefgh 1;house abcdfgh 1;", -1);
        Check.fault("house abcdefgh 1;house abcdefgi 1;house  abcdefgh 1;", 3, 41);
        Check.fault("house z 1;street;house z 1;", 3, 23);
        RingPurses x = Check.of("house a 1;");
        due("a NAME of the text ahead", Check.read(x, "house a 1;"), 0);
        Check.read(x, "house b 1;house b 1;");
        due("a NAME of a text with a FAULT", Check.read(x, "house b 1;"), 0);
        Check.read(x, houses(10) + "house q 1;");
        due("a NAME behind 10", Check.read(x, houses(10)), 0);
    }

    /** "If there is none, likewise": TWICE and WRONG only without SYNTAX and ROOM, wherever these stand. */
    private static void twiceAndWrongOnlyIfThereIsNone() {
        for (String ahead : new String[] {"house a 1;house a 1;", "shared most 0;", "shared most 0;house a 1;house a 1;"}) {
            int n = ahead.length();
            Check.fault(ahead + "#", 1, n);
            Check.fault(ahead + "street", 1, n + 6);
            Check.fault(ahead + "pays=(((((((1)))))));", 2, n + 11);
            Check.fault(ahead + "earns=" + "if 1<2 then 3 else ".repeat(5) + "4;", 2, n + 6 + 76);
            int tokens = 4 * (n - ahead.replace(";", "").length());
            Check.fault(ahead + ofTokens(400), 2, n + (400 - tokens) / 2 * 7);
        }
        Check.fault("house a 1;house a 1;" + "house b 1;house c 1;house d 1;house e 1;house f 1;house g 1;house h 1;"
            + "house i 1;house j 1;", 2, 100);
        Check.fault("house a 1;house a 1;shared most 0;", 3, 16);
        Check.fault("shared most 0;house a 1;house a 1;", 5, 12);
        Check.fault("house a 1;shared most 31;house a 1;", 5, 22);
    }

    private static final String ALL_ELSE = "house q 1;house r 2;street;turns;pays=1;earns=1;shared most 1;seed 9;";

    private static RingPurses withoutTape() {
        RingPurses x = Samples.ring();
        x.back(x.count(9));
        return x;
    }

    /** "A text with a FAULT changes nothing but the tape". */
    private static void aFaultChangesNothingButTheTape() {
        String[] texts = {"#", ALL_ELSE + "house", ALL_ELSE + "house s", ALL_ELSE + "pays", ALL_ELSE + "street;;",
            ALL_ELSE + houses(9), ALL_ELSE + "pays=(((((((1)))))));", ALL_ELSE + "earns=" + "if 1<2 then 3 else ".repeat(5) + "4;",
            ALL_ELSE + ofTokens(400), ALL_ELSE + "house q 3;", ALL_ELSE + "shared alike 0;", ALL_ELSE + "shared round 31;"};
        int[] faults = {1, 1, 1, 1, 1, 2, 2, 2, 2, 3, 5, 5};
        for (int i = 0; i < texts.length; i++) {
            RingPurses x = withoutTape();
            due("fault " + i, Check.read(x, texts[i]), faults[i]);
            Whole.same("fault " + i + " changes nothing", x, withoutTape());
            RingPurses none = new RingPurses();
            Check.read(none, texts[i]);
            Whole.same("nor of a new object", none, new RingPurses());
        }
    }

    /** "evening 0, PURSES as told, the POT empty, nothing hidden, nothing can be undone, nothing is TOLD, SLOTS hold nothing". */
    private static void inPlaceOfTheOneAhead() {
        String[] texts = {"", " ", ALL_ELSE, "house a 30;house b 4;", houses(10), "street;", "turns;", "pays=0;", "earns=5;",
            "shared round 30;", "seed 9999;"};
        for (String text : texts) {
            RingPurses[] olds = {withoutTape(), Samples.street(), Samples.none(), Samples.full()};
            for (RingPurses old : olds) {
                old.back(old.count(9));
                due("read", Check.read(old, text), 0);
                due("evening", old.count(6), 0);
                due("the POT", old.count(5), 0);
                due("shared", old.count(8), 0);
                due("undone", old.count(10), 0);
                due("TOLD", old.count(11), 0);
                due("SLOTS", old.count(12), 0);
                Whole.same("in place of the one ahead: " + text, old, Check.of(text));
            }
        }
    }

    /** "As if an empty text had been read." */
    private static void aNewObject() {
        RingPurses x = new RingPurses();
        due("read", x.read(), 0);
        Whole.same("a new object", new RingPurses(), x);
        RingPurses y = withoutTape();
        due("read", y.read(), 0);
        Whole.same("a new object", new RingPurses(), y);
    }
}
