/** Houses in a ring or a street that pay into a pot, evening by evening, as the document RingPurses tells. */
public final class RingPurses {
    public static final int NONE = -1;

    private static final int UNTOLD = -2;
    private static final int NO_SUCH_DEAL = -1000000;

    private static final int MOST_BYTES = 2000;
    private static final int BYTES_FED = 20;
    private static final int MOST_TOKENS = 400;
    private static final int MOST_LETTERS = 8;
    private static final int MOST_DIGITS = 4;
    private static final int MOST_HOUSES = 10;
    private static final int MOST_IFS = 4;
    private static final int MOST_PARENS = 6;
    private static final int MOST_PURSE = 9999;
    private static final int MOST_EARNED = 999;
    private static final int MOST_EVERY = 30;
    private static final int EVERY_IF_NOT_TOLD = 7;
    private static final int MOST_EVENINGS = 300;
    private static final int MOST_UNDONE = 30;
    private static final int MOST_SLOTS = 3;
    private static final int MOST_GIFT = 2000;
    private static final int MOST_UNIT = 999;
    private static final int MOST_UNITS_GIVEN = 20;
    private static final int MOST_GIFT_EVENINGS = 30;
    private static final int MOST_PLANNERS = 8;
    private static final int MOST_TOLD = 20;
    private static final int MOST_IN_ROW = 20;
    private static final int MOST_ROWS = 200000;

    private static final int SYNTAX = 1;
    private static final int ROOM = 2;
    private static final int TWICE = 3;
    private static final int WRONG = 5;

    private static final int ALIKE = 0;
    private static final int TO_MOST = 1;
    private static final int ROUND = 2;

    // Kinds of tokens: a sign is its own byte; the words follow one another as in WORDS.
    private static final int END = 0;
    private static final int NO_TOKEN = 1;
    private static final int NAME = 2;
    private static final int INT = 3;
    private static final int BLANK = 4;
    private static final int WORD_HOUSE = 100;
    private static final int WORD_STREET = 101;
    private static final int WORD_TURNS = 102;
    private static final int WORD_PAYS = 103;
    private static final int WORD_EARNS = 104;
    private static final int WORD_SHARED = 105;
    private static final int WORD_SEED = 106;
    private static final int WORD_IF = 107;
    private static final int WORD_THEN = 108;
    private static final int WORD_ELSE = 109;
    private static final int WORD_ALIKE = 110;
    private static final int WORD_MOST = 111;
    private static final int WORD_ROUND = 112;
    private static final int WORD_LEFT = 113;
    private static final int WORD_POT = 119;
    private static final int WORD_COUNT = 20;
    private static final String WORDS =
        "house street turns pays earns shared seed if then else alike most round left right own gap day lot pot ";

    // What a law can look at, in the order of the last words of WORDS.
    private static final int LEFT = 0;
    private static final int RIGHT = 1;
    private static final int OWN = 2;
    private static final int GAP = 3;
    private static final int DAY = 4;
    private static final int LOT = 5;
    private static final int POT = 6;
    private static final int SEEN = 7;

    // Steps of a law: + - * / are their own bytes.
    private static final int STEP_NUMBER = 1;
    private static final int STEP_SEEN = 2;
    private static final int STEP_LESS = 3;
    private static final int STEP_DONE = 4;

    private final Tape tape = new Tape();
    private final Reader reader = new Reader();
    private final Ring ring = new Ring();
    private final Kept kept = new Kept();
    private final Foresight foresight = new Foresight();
    private final Deals deals = new Deals();
    private final Plans plans = new Plans();
    private final Told told = new Told();
    private Rules rules = new Rules();
    private Rules spare = new Rules();
    private int faultPlace = NONE;

    public RingPurses() {
        ring.begin(rules);
    }

    public int feed(int a, int b, int c, int d, int e) {
        if (tape.length + BYTES_FED > MOST_BYTES) return NONE;
        tape.put(a);
        tape.put(b);
        tape.put(c);
        tape.put(d);
        tape.put(e);
        return tape.length;
    }

    public int back(int n) {
        if (n < 0 || n > tape.length) return NONE;
        tape.length -= n;
        return tape.length;
    }

    public int read() {
        int fault = reader.parse(tape, spare);
        tape.length = 0;
        faultPlace = reader.faultPlace();
        if (fault == 0) goOnFromSpare();
        return fault;
    }

    private void goOnFromSpare() {
        Rules old = rules;
        rules = spare;
        spare = old;
        ring.begin(rules);
        kept.clear();
        told.clear();
    }

    public int place() {
        return faultPlace;
    }

    public int house(int house, int what) {
        if (!ring.has(house)) return NONE;
        switch (what) {
            case 0: return ring.purse[house];
            case 1: return ring.hidden[house];
            case 2: return ring.shown(house);
            case 3: return rules.gapOf(ring, house);
            case 4: return rules.wanted(ring, house);
            case 5: return ring.paid[house];
            case 6: return (int) ring.since[house];
            default: return NONE;
        }
    }

    public int run(int n) {
        if (!isEvenings(n)) return NONE;
        if (n > 0) {
            kept.note(ring);
            rules.evenings(ring, n, rules.sharing);
        }
        return ring.evening;
    }

    public boolean give(int from, int to, int x) {
        if (!ring.has(from) || !ring.has(to) || from == to) return false;
        if (x < 0 || x > ring.shown(from)) return false;
        kept.note(ring);
        ring.move(from, to, x);
        return true;
    }

    public boolean hide(int house, int x) {
        if (!ring.has(house) || x < 0 || x > ring.purse[house]) return false;
        kept.note(ring);
        ring.hidden[house] = x;
        return true;
    }

    public int grab(int house) {
        if (!ring.has(house)) return NONE;
        kept.note(ring);
        int taken = ring.pot;
        ring.purse[house] += taken;
        ring.pot = 0;
        return taken;
    }

    public int build(int at, int purse) {
        if (at < 0 || at > ring.houses || ring.isFull() || !isPurse(purse)) return NONE;
        kept.note(ring);
        ring.insert(at, purse);
        return ring.houses;
    }

    public int burn(int house) {
        if (!ring.has(house)) return NONE;
        kept.note(ring);
        int had = ring.purse[house];
        ring.remove(house);
        return had;
    }

    public int join(int house) {
        if (!ring.has(house) || ring.houses < 2) return NONE;
        boolean last = house == ring.houses - 1;
        if (last && rules.street) return NONE;
        kept.note(ring);
        int joined = last ? 0 : house;
        ring.merge(joined, last ? house : house + 1);
        return ring.purseOf(joined);
    }

    public boolean undo() {
        return kept.takeBack(ring);
    }

    public int becomes(int what) {
        if (what != 0 && what != 1) return NONE;
        return foresight.period(rules, ring, what == 0);
    }

    public int apart(int n) {
        if (!isEvenings(n)) return NONE;
        return foresight.spreadAfter(rules, ring, n);
    }

    public int even(int d, int how) {
        if (d < 0 || how < ALIKE || how > ROUND) return NONE;
        return foresight.evenAfter(rules, ring, d, how);
    }

    public int soonest(int d) {
        if (d < 0) return NONE;
        return foresight.soonestSharing(rules, ring, d);
    }

    public int start(int house, int what) {
        if (!ring.has(house) || what < 0 || what > 1) return NONE;
        deals.findStart(rules, ring, house);
        return what == 0 ? deals.whom : deals.gain;
    }

    public int wealth(int a, int b, int x) {
        if (!ring.has(a) || !ring.has(b) || x < 0 || x > ring.shown(a)) return NO_SUCH_DEAL;
        return deals.lessPaid(rules, ring, a, b, x);
    }

    public int free(int house, int what) {
        if (!ring.has(house) || what < 0 || what > 1) return NONE;
        deals.findLeastGift(rules, ring, house);
        return what == 0 ? deals.much : deals.whom;
    }

    public int best(int house, int unit, int n, int what) {
        if (!ring.has(house) || !isUnit(unit) || n < 1 || n > MOST_GIFT_EVENINGS) return NONE;
        if (what < 0 || what > 2) return NONE;
        deals.findBestGift(rules, ring, house, unit, n);
        if (what == 0) return deals.much;
        return what == 1 ? deals.whom : deals.gain;
    }

    public int loan(int a, int b, int x, boolean most) {
        if (!ring.has(a) || !ring.has(b) || a == b) return NO_SUCH_DEAL;
        if (x < 1 || x > ring.shown(a)) return NO_SUCH_DEAL;
        return deals.rate(rules, ring, a, b, x, most);
    }

    public int site(int purse) {
        if (!isPurse(purse)) return NONE;
        if (ring.isFull()) return UNTOLD;
        return deals.bestSite(rules, ring, purse);
    }

    public int rests(int unit, int i) {
        if (!isUnit(unit) || i < NONE) return NONE;
        if (ring.houses > MOST_PLANNERS) return UNTOLD;
        return plans.restAt(rules, ring, unit, i);
    }

    public int tell(int house, int pay) {
        if (!ring.has(house) || pay < 0 || pay > MOST_PURSE) return NONE;
        return told.add(house, pay);
    }

    public int forget() {
        int had = told.size;
        told.clear();
        return had;
    }

    public int fits(int most, int k) {
        if (!isInRow(most) || k < 0 || k > told.size) return NONE;
        if (told.rowsUpTo(most, ring.houses) > MOST_ROWS) return UNTOLD;
        told.goThroughFits(rules, ring, most, k, 0);
        return told.found;
    }

    public int span(int most, int k, int house) {
        if (!isInRow(most) || k < 0 || k > told.size || !ring.has(house)) return NONE;
        if (told.rowsUpTo(most, ring.houses) > MOST_ROWS) return UNTOLD;
        told.goThroughFits(rules, ring, most, k, house);
        return told.found == 0 ? UNTOLD : 100 * told.least + told.greatest;
    }

    public int ago(int most) {
        if (!isInRow(most)) return NONE;
        if (told.rowsUpTo(most, ring.houses) > MOST_ROWS) return UNTOLD;
        told.goThroughAgo(rules, ring, most);
        return told.found;
    }

    public boolean hold(int slot) {
        return kept.holdIn(slot, ring);
    }

    public boolean restore(int slot) {
        if (!kept.bringBack(slot, ring)) return false;
        kept.forgetPast();
        return true;
    }

    public int count(int what) {
        switch (what) {
            case 0: return ring.houses;
            case 1: return rules.street ? 1 : 0;
            case 2: return rules.turns ? 1 : 0;
            case 3: return rules.sharing;
            case 4: return rules.every;
            case 5: return ring.pot;
            case 6: return ring.evening;
            case 7: return ring.total();
            case 8: return ring.shares;
            case 9: return tape.length;
            case 10: return kept.undoable;
            case 11: return told.size;
            case 12: return kept.heldSlots();
            default: return NONE;
        }
    }

    private static boolean isEvenings(int n) {
        return n >= 0 && n <= MOST_EVENINGS;
    }

    private static boolean isPurse(int purse) {
        return purse >= 0 && purse <= MOST_PURSE;
    }

    private static boolean isUnit(int unit) {
        return unit >= 1 && unit <= MOST_UNIT;
    }

    private static boolean isInRow(int most) {
        return most >= 1 && most <= MOST_IN_ROW;
    }

    /** The bytes fed and not yet read. */
    private static final class Tape {
        private final byte[] bytes = new byte[MOST_BYTES];
        private int length;

        void put(int fourBytes) {
            for (int shift = 24; shift >= 0; shift -= 8) {
                if (length >= 0 && length < bytes.length) bytes[length++] = (byte) (fourBytes >>> shift);
            }
        }

        int byteAt(int i) {
            return i >= 0 && i < bytes.length ? bytes[i] & 255 : 0;
        }
    }

    /** The tokens of a text: what each is, where it begins, and its number or name. */
    private static final class Tokens {
        // One more than a text may have, for the fault that the first one too many is, and the end.
        private final int[] kinds = new int[MOST_TOKENS + 2];
        private final int[] places = new int[MOST_TOKENS + 2];
        private final long[] values = new long[MOST_TOKENS + 2];
        private final long[] words = new long[WORD_COUNT];
        private int size;
        private int signs;

        Tokens() {
            int word = 0;
            for (int i = 0; i < WORDS.length(); i++) {
                if (WORDS.charAt(i) == ' ') word++;
                else if (word < words.length) words[word] = spelled(words[word], WORDS.charAt(i));
            }
        }

        int kindAt(int i) {
            return i >= 0 && i < kinds.length ? kinds[i] : END;
        }

        int placeOf(int i) {
            return i >= 0 && i < places.length ? places[i] : NONE;
        }

        long valueOf(int i) {
            return i >= 0 && i < values.length ? values[i] : 0;
        }

        void scan(Tape tape) {
            size = 0;
            int last = BLANK;
            for (int i = 0; i < tape.length; i++) {
                int sign = tape.byteAt(i);
                int kind = kindOf(sign);
                boolean longer = kind == last && (kind == NAME || kind == INT);
                if (!longer && kind != BLANK && !open(kind, i)) break;
                if (kind == NAME || kind == INT) grow(kind, sign);
                last = kind;
            }
            close(tape.length);
        }

        private boolean open(int kind, int place) {
            if (size < 0 || size > MOST_TOKENS) return false;
            kinds[size] = kind;
            places[size] = place;
            values[size] = 0;
            signs = 0;
            size++;
            return true;
        }

        private void grow(int kind, int sign) {
            int i = size - 1;
            if (i < 0 || i >= kinds.length) return;
            signs++;
            if (signs > (kind == NAME ? MOST_LETTERS : MOST_DIGITS)) kinds[i] = NO_TOKEN;
            else values[i] = kind == NAME ? spelled(values[i], sign) : 10 * values[i] + (sign - '0');
        }

        private void close(int length) {
            for (int i = 0; i < size && i < kinds.length; i++) {
                if (kinds[i] == NAME) kinds[i] = wordOrName(values[i]);
            }
            if (size < 0 || size >= kinds.length) return;
            kinds[size] = END;
            places[size] = length;
        }

        private int wordOrName(long name) {
            for (int word = 0; word < words.length; word++) {
                if (words[word] == name) return WORD_HOUSE + word;
            }
            return NAME;
        }

        private static long spelled(long name, int letter) {
            return 32 * name + (letter - 'a' + 1);
        }

        private static int kindOf(int sign) {
            if (sign >= 'a' && sign <= 'z') return NAME;
            if (sign >= '0' && sign <= '9') return INT;
            switch (sign) {
                case 9: case 10: case 13: case 32: return BLANK;
                case ';': case '=': case '+': case '-': case '*': case '/': case '<': case '(': case ')': return sign;
                default: return NO_TOKEN;
            }
        }
    }

    /** Makes rules of a text, or finds its first fault. */
    private static final class Reader {
        private final Tokens tokens = new Tokens();
        private final long[] names = new long[MOST_HOUSES];
        // Signs not yet put behind their parts: two and a ( at most for each ( that stands open.
        private final int[] waiting = new int[3 * (MOST_PARENS + 1)];
        private int at;
        private int waits;
        private int open;
        private int fault;
        private int place;
        private int laterFault;
        private int laterPlace;

        int faultPlace() {
            return place;
        }

        int parse(Tape tape, Rules rules) {
            tokens.scan(tape);
            rules.clear();
            at = 0;
            fault = 0;
            place = NONE;
            laterFault = 0;
            laterPlace = NONE;
            for (int tells = 0; tells <= MOST_TOKENS && fault == 0 && tokens.kindAt(at) != END; tells++) {
                switch (tokens.kindAt(at)) {
                    case WORD_HOUSE: tellHouse(rules); break;
                    case WORD_STREET: rules.street = take(WORD_STREET) && take(';'); break;
                    case WORD_TURNS: rules.turns = take(WORD_TURNS) && take(';'); break;
                    case WORD_PAYS: tellLaw(WORD_PAYS, rules.pays); break;
                    case WORD_EARNS: tellLaw(WORD_EARNS, rules.earns); break;
                    case WORD_SHARED: tellShared(rules); break;
                    case WORD_SEED: tellSeed(rules); break;
                    default: failAt(at, SYNTAX);
                }
            }
            if (fault != 0) return fault;
            place = laterPlace;
            return laterFault;
        }

        private void tellHouse(Rules rules) {
            if (rules.houses >= MOST_HOUSES) {
                failAt(at, ROOM);
                return;
            }
            int name = at + 1;
            int purse = at + 2;
            if (!take(WORD_HOUSE) || !take(NAME) || !take(INT) || !take(';')) return;
            for (int i = 0; i < rules.houses && i < names.length; i++) {
                if (names[i] == tokens.valueOf(name)) failLater(name, TWICE);
            }
            if (rules.houses >= 0 && rules.houses < names.length) names[rules.houses] = tokens.valueOf(name);
            rules.addHouse((int) tokens.valueOf(purse));
        }

        private void tellShared(Rules rules) {
            int how = tokens.kindAt(at + 1);
            int every = at + 2;
            if (!take(WORD_SHARED)) return;
            if (how != WORD_ALIKE && how != WORD_MOST && how != WORD_ROUND) failAt(at, SYNTAX);
            if (!take(how) || !take(INT) || !take(';')) return;
            int evenings = (int) tokens.valueOf(every);
            if (evenings < 1 || evenings > MOST_EVERY) failLater(every, WRONG);
            else rules.share(how - WORD_ALIKE, evenings);
        }

        private void tellSeed(Rules rules) {
            int seed = at + 1;
            if (take(WORD_SEED) && take(INT) && take(';')) rules.seed = (int) tokens.valueOf(seed);
        }

        private void tellLaw(int word, Law law) {
            law.clear();
            if (!take(word) || !take('=')) return;
            for (int ifs = 0; ifs <= MOST_IFS && fault == 0 && tokens.kindAt(at) == WORD_IF; ifs++) {
                if (ifs == MOST_IFS) failAt(at, ROOM);
                else readBranch(law);
            }
            readSum(law);
            law.add(STEP_DONE, 0);
            take(';');
        }

        private void readBranch(Law law) {
            take(WORD_IF);
            readSum(law);
            take('<');
            readSum(law);
            int less = law.size;
            law.add(STEP_LESS, 0);
            take(WORD_THEN);
            readSum(law);
            law.add(STEP_DONE, 0);
            take(WORD_ELSE);
            law.leadHere(less);
        }

        /** Reads an E: units and signs by turns, a sign put behind its parts as soon as none binds them more. */
        private void readSum(Law law) {
            waits = 0;
            open = 0;
            boolean unitDue = true;
            for (int i = 0; i <= MOST_TOKENS && fault == 0; i++) {
                int kind = tokens.kindAt(at);
                if (unitDue) {
                    unitDue = kind == '(';
                    readUnit(law, kind);
                } else if (kind == ')' && open > 0) {
                    readClose(law);
                } else if (bond(kind) > 0) {
                    readSign(law, kind);
                    unitDue = true;
                } else {
                    break;
                }
            }
            if (open > 0) failAt(at, SYNTAX);
            putSigns(law, 1);
        }

        private void readUnit(Law law, int kind) {
            if (kind == '(') {
                if (open >= MOST_PARENS) failAt(at, ROOM);
                open++;
                await('(');
                take('(');
            } else if (kind >= WORD_LEFT && kind <= WORD_POT) {
                law.add(STEP_SEEN, kind - WORD_LEFT);
                take(kind);
            } else {
                law.add(STEP_NUMBER, (int) tokens.valueOf(at));
                take(INT);
            }
        }

        private void readClose(Law law) {
            putSigns(law, 1);
            if (waits > 0) waits--;
            open--;
            take(')');
        }

        private void readSign(Law law, int sign) {
            putSigns(law, bond(sign));
            await(sign);
            take(sign);
        }

        private void await(int sign) {
            if (waits >= 0 && waits < waiting.length) waiting[waits++] = sign;
        }

        private void putSigns(Law law, int leastBond) {
            for (int i = Math.min(waits, waiting.length) - 1; i >= 0 && bond(waiting[i]) >= leastBond; i--) {
                law.add(waiting[i], 0);
                waits = i;
            }
        }

        private static int bond(int sign) {
            if (sign == '*' || sign == '/') return 2;
            return sign == '+' || sign == '-' ? 1 : 0;
        }

        private boolean take(int kind) {
            if (fault != 0) return false;
            boolean goesOn = tokens.kindAt(at) == kind;
            if (goesOn && at < MOST_TOKENS) {
                at++;
                return true;
            }
            fault = goesOn ? ROOM : SYNTAX;
            place = tokens.placeOf(at);
            return false;
        }

        private void failAt(int token, int what) {
            if (fault != 0) return;
            fault = what;
            place = tokens.placeOf(token);
        }

        // Tokens are gone through by their places, so the first that is found stands first.
        private void failLater(int token, int what) {
            if (laterFault != 0) return;
            laterFault = what;
            laterPlace = tokens.placeOf(token);
        }
    }

    /** What is paid or earned, as steps over a stack of numbers. */
    private static final class Law {
        private final int[] steps = new int[MOST_TOKENS];
        private final int[] args = new int[MOST_TOKENS];
        // Two numbers at most for each ( that stands open, and two to be compared.
        private final int[] stack = new int[2 * (MOST_PARENS + 2)];
        private int size;
        private boolean looksAtLot;

        void clear() {
            size = 0;
            looksAtLot = false;
        }

        void beSeen(int what) {
            clear();
            add(STEP_SEEN, what);
            add(STEP_DONE, 0);
        }

        void beNumber(int number) {
            clear();
            add(STEP_NUMBER, number);
            add(STEP_DONE, 0);
        }

        void add(int step, int arg) {
            if (size < 0 || size >= steps.length) return;
            steps[size] = step;
            args[size] = arg;
            size++;
            if (step == STEP_SEEN && arg == LOT) looksAtLot = true;
        }

        void leadHere(int less) {
            if (less >= 0 && less < args.length) args[less] = size;
        }

        int value(int[] seen) {
            int top = 0;
            int at = 0;
            // Steps lead forward alone: none is gone twice.
            for (int gone = 0; gone < size && at >= 0 && at < size && at < steps.length; gone++) {
                int step = steps[at];
                int arg = args[at];
                at++;
                if (step == STEP_DONE) return top > 0 ? stack[top - 1] : 0;
                if (step == STEP_NUMBER || step == STEP_SEEN) {
                    if (top < 0 || top >= stack.length || arg < 0) return 0;
                    if (step == STEP_SEEN && arg >= seen.length) return 0;
                    stack[top++] = step == STEP_SEEN ? seen[arg] : arg;
                    continue;
                }
                if (top < 2 || top > stack.length) return 0;
                int right = stack[top - 1];
                int left = stack[top - 2];
                if (step == STEP_LESS) {
                    top -= 2;
                    if (left >= right) at = arg;
                } else {
                    if (step == '/' && right == 0) return 0;
                    top--;
                    stack[top - 1] = combined(step, left, right);
                }
            }
            return 0;
        }

        private static int combined(int sign, int left, int right) {
            switch (sign) {
                case '+': return left + right;
                case '-': return left - right;
                case '*': return left * right;
                default: return right == 0 ? 0 : left / right;
            }
        }
    }

    /** What a text tells, and the evenings by it. */
    private static final class Rules {
        private final Law pays = new Law();
        private final Law earns = new Law();
        private final int[] purses = new int[MOST_HOUSES];
        private final int[] seen = new int[SEEN];
        private final int[] due = new int[MOST_HOUSES];
        private int houses;
        private boolean street;
        private boolean turns;
        private int sharing;
        private int every;
        private int seed;

        Rules() {
            clear();
        }

        void clear() {
            pays.beSeen(GAP);
            earns.beNumber(0);
            houses = 0;
            street = false;
            turns = false;
            sharing = ALIKE;
            every = EVERY_IF_NOT_TOLD;
            seed = 0;
        }

        void addHouse(int purse) {
            if (houses >= 0 && houses < purses.length) purses[houses++] = purse;
        }

        void share(int how, int evenings) {
            sharing = how;
            every = evenings;
        }

        int gapOf(Ring ring, int house) {
            if (!ring.has(house)) return 0;
            look(ring, house, false);
            return seen[GAP];
        }

        int wanted(Ring ring, int house) {
            if (!ring.has(house)) return 0;
            look(ring, house, pays.looksAtLot);
            return Math.max(0, Math.min(pays.value(seen), seen[OWN]));
        }

        private void look(Ring ring, int house, boolean atLot) {
            int last = ring.houses - 1;
            int ahead = house > 0 ? house - 1 : street ? house : last;
            int behind = house < last ? house + 1 : street ? house : 0;
            int left = ring.shown(ahead);
            int right = ring.shown(behind);
            seen[LEFT] = left;
            seen[RIGHT] = right;
            seen[OWN] = ring.shown(house);
            seen[GAP] = Math.abs(left - right);
            seen[DAY] = ring.evening;
            seen[POT] = ring.pot;
            seen[LOT] = atLot ? lot(20 * ring.evening + house) : 0;
        }

        private int lot(int which) {
            int h = seed;
            for (int i = 0; i < 2; i++) {
                h = (h ^ (i == 0 ? 25 : which)) * 1103515245 + 12345;
                h = h ^ (h >>> 15);
            }
            return (h >>> 1) % 100;
        }

        void evenings(Ring ring, int n, int how) {
            for (int i = 0; i < n; i++) evening(ring, how);
        }

        void evening(Ring ring, int how) {
            earn(ring);
            if (turns) payByTurns(ring, 0);
            else payAtOnce(ring);
            ring.evening++;
            if (every > 0 && ring.evening % every == 0) ring.sharePot(how);
        }

        private void earn(Ring ring) {
            for (int i = 0; i < ring.houses; i++) {
                look(ring, i, earns.looksAtLot);
                ring.earn(i, Math.max(0, Math.min(earns.value(seen), MOST_EARNED)));
            }
        }

        private void payAtOnce(Ring ring) {
            for (int i = 0; i < ring.houses && i < due.length; i++) due[i] = wanted(ring, i);
            for (int i = 0; i < ring.houses && i < due.length; i++) ring.pay(i, due[i]);
        }

        void payByTurns(Ring ring, int first) {
            for (int i = first; i < ring.houses; i++) ring.pay(i, wanted(ring, i));
            for (int i = 0; i < first; i++) ring.pay(i, wanted(ring, i));
        }
    }

    /** The houses, the pot and the evening: all that an evening changes. */
    private static final class Ring {
        private final int[] purse = new int[MOST_HOUSES];
        private final int[] hidden = new int[MOST_HOUSES];
        private final int[] paid = new int[MOST_HOUSES];
        // Longs: what was paid can be taken and paid again, so that in all it may be more than an int holds.
        private final long[] since = new long[MOST_HOUSES];
        private int houses;
        private int pot;
        private int evening;
        private int shares;

        void begin(Rules rules) {
            houses = 0;
            pot = 0;
            evening = 0;
            shares = 0;
            for (int i = 0; i < rules.houses && i < MOST_HOUSES; i++) insert(i, rules.purses[i]);
        }

        void copy(Ring other) {
            houses = other.houses;
            pot = other.pot;
            evening = other.evening;
            shares = other.shares;
            for (int i = 0; i < houses && i < MOST_HOUSES; i++) {
                purse[i] = other.purse[i];
                hidden[i] = other.hidden[i];
                paid[i] = other.paid[i];
                since[i] = other.since[i];
            }
        }

        boolean has(int house) {
            return house >= 0 && house < houses && house < MOST_HOUSES;
        }

        boolean isFull() {
            return houses >= MOST_HOUSES;
        }

        int purseOf(int house) {
            return has(house) ? purse[house] : 0;
        }

        int paidBy(int house) {
            return has(house) ? paid[house] : 0;
        }

        int shown(int house) {
            if (house < 0 || house >= houses || house >= MOST_HOUSES) return 0;
            return purse[house] - hidden[house];
        }

        int total() {
            int sum = 0;
            for (int i = 0; i < MOST_HOUSES && has(i); i++) sum += purse[i];
            return sum;
        }

        int spread() {
            if (!has(0)) return 0;
            int least = purse[0];
            int greatest = purse[0];
            for (int i = 1; i < MOST_HOUSES && has(i); i++) {
                least = Math.min(least, purse[i]);
                greatest = Math.max(greatest, purse[i]);
            }
            return greatest - least;
        }

        void move(int from, int to, int x) {
            if (!has(from) || !has(to)) return;
            purse[from] -= x;
            purse[to] += x;
        }

        void earn(int house, int x) {
            if (has(house)) purse[house] += x;
        }

        void pay(int house, int x) {
            if (!has(house)) return;
            purse[house] -= x;
            pot += x;
            paid[house] = x;
            since[house] += x;
        }

        void sharePot(int how) {
            if (houses <= 0) return;
            if (how == ALIKE) {
                int part = pot / houses;
                for (int i = 0; i < MOST_HOUSES && has(i); i++) purse[i] += part;
                pot -= part * houses;
            } else {
                earn(how == TO_MOST ? mostPaying() : shares % houses, pot);
                pot = 0;
            }
            for (int i = 0; i < MOST_HOUSES && has(i); i++) since[i] = 0;
            shares++;
        }

        private int mostPaying() {
            int most = 0;
            for (int i = 1; i < MOST_HOUSES && has(i); i++) {
                if (since[i] > since[most]) most = i;
            }
            return most;
        }

        void insert(int at, int owned) {
            if (at < 0 || at > houses || isFull()) return;
            for (int i = houses; i > at; i--) copyHouse(i - 1, i);
            houses++;
            purse[at] = owned;
            hidden[at] = 0;
            paid[at] = 0;
            since[at] = 0;
        }

        void remove(int at) {
            if (!has(at)) return;
            for (int i = at + 1; i < MOST_HOUSES && has(i); i++) copyHouse(i, i - 1);
            houses--;
        }

        void merge(int kept, int gone) {
            if (!has(kept) || !has(gone)) return;
            purse[kept] += purse[gone];
            hidden[kept] += hidden[gone];
            paid[kept] += paid[gone];
            since[kept] += since[gone];
            remove(gone);
        }

        private void copyHouse(int from, int to) {
            if (from < 0 || from >= MOST_HOUSES || to < 0 || to >= MOST_HOUSES) return;
            purse[to] = purse[from];
            hidden[to] = hidden[from];
            paid[to] = paid[from];
            since[to] = since[from];
        }
    }

    /** The rings ahead of the last things done, and those that are held to go on from. */
    private static final class Kept {
        private final Ring[] past = new Ring[MOST_UNDONE];
        private final Ring[] slots = new Ring[MOST_SLOTS];
        private final boolean[] holds = new boolean[MOST_SLOTS];
        private int next;
        private int undoable;

        Kept() {
            for (int i = 0; i < past.length; i++) past[i] = new Ring();
            for (int i = 0; i < slots.length; i++) slots[i] = new Ring();
        }

        void clear() {
            forgetPast();
            for (int i = 0; i < holds.length; i++) holds[i] = false;
        }

        void forgetPast() {
            undoable = 0;
        }

        void note(Ring ring) {
            if (next < 0 || next >= past.length || past[next] == null) return;
            past[next].copy(ring);
            next = next + 1 < past.length ? next + 1 : 0;
            if (undoable < past.length) undoable++;
        }

        boolean takeBack(Ring ring) {
            if (undoable <= 0) return false;
            int last = next > 0 ? next - 1 : past.length - 1;
            if (last >= past.length || past[last] == null) return false;
            ring.copy(past[last]);
            next = last;
            undoable--;
            return true;
        }

        boolean holdIn(int slot, Ring ring) {
            if (slot < 0 || slot >= slots.length || slots[slot] == null) return false;
            slots[slot].copy(ring);
            holds[slot] = true;
            return true;
        }

        boolean bringBack(int slot, Ring ring) {
            if (!isHeld(slot) || slots[slot] == null) return false;
            ring.copy(slots[slot]);
            return true;
        }

        int heldSlots() {
            int sum = 0;
            for (int slot = 0; slot < slots.length; slot++) {
                if (isHeld(slot)) sum++;
            }
            return sum;
        }

        private boolean isHeld(int slot) {
            return slot >= 0 && slot < MOST_SLOTS && holds[slot];
        }
    }

    /** What becomes of a ring over the evenings. */
    private static final class Foresight {
        private static final int WIDTH = MOST_HOUSES + 1;

        private final Ring trial = new Ring();
        // For each evening what each house has, and the pot; what is hidden stays as it is.
        private final int[] trail = new int[(MOST_EVENINGS + 1) * WIDTH];

        int period(Rules rules, Ring now, boolean length) {
            walk(rules, now);
            for (int p = 1; p <= MOST_EVENINGS; p++) {
                for (int s = 0; s + p <= MOST_EVENINGS; s++) {
                    if (isSame(s, s + p)) return length ? p : s;
                }
            }
            return UNTOLD;
        }

        private void walk(Rules rules, Ring now) {
            trial.copy(now);
            for (int n = 0; n <= MOST_EVENINGS; n++) {
                int from = n * WIDTH;
                trail[from] = trial.pot;
                for (int i = 0; i < MOST_HOUSES && trial.has(i); i++) trail[from + 1 + i] = trial.purse[i];
                rules.evening(trial, rules.sharing);
            }
        }

        private boolean isSame(int one, int other) {
            int from = one * WIDTH;
            int with = other * WIDTH;
            for (int i = 0; i <= trial.houses && i < WIDTH; i++) {
                if (trail[from + i] != trail[with + i]) return false;
            }
            return true;
        }

        int spreadAfter(Rules rules, Ring now, int n) {
            trial.copy(now);
            rules.evenings(trial, n, rules.sharing);
            return trial.spread();
        }

        int evenAfter(Rules rules, Ring now, int d, int how) {
            trial.copy(now);
            for (int n = 0; n <= MOST_EVENINGS; n++) {
                if (trial.spread() <= d) return n;
                rules.evening(trial, how);
            }
            return UNTOLD;
        }

        int soonestSharing(Rules rules, Ring now, int d) {
            int soonest = UNTOLD;
            int least = MOST_EVENINGS + 1;
            for (int how = ALIKE; how <= ROUND; how++) {
                int n = evenAfter(rules, now, d, how);
                if (n >= 0 && n < least) {
                    least = n;
                    soonest = how;
                }
            }
            return soonest;
        }
    }

    /** Who pays for whose wealth, gifts, loans, and where to build. */
    private static final class Deals {
        private final Ring trial = new Ring();
        private int much;
        private int whom;
        private int gain;

        void findStart(Rules rules, Ring now, int house) {
            gain = NONE;
            for (int first = 0; first < now.houses; first++) {
                trial.copy(now);
                rules.payByTurns(trial, first);
                better(trial.purseOf(house), 0, first);
            }
        }

        private void better(int has, int given, int to) {
            if (has <= gain) return;
            gain = has;
            much = given;
            whom = to;
        }

        int lessPaid(Rules rules, Ring now, int a, int b, int x) {
            trial.copy(now);
            rules.evening(trial, rules.sharing);
            int paid = trial.paidBy(b);
            trial.copy(now);
            trial.earn(a, -x);
            rules.evening(trial, rules.sharing);
            return paid - trial.paidBy(b);
        }

        void findLeastGift(Rules rules, Ring now, int house) {
            much = 0;
            whom = UNTOLD;
            trial.copy(now);
            if (rules.wanted(trial, house) == 0) return;
            int most = Math.min(now.shown(house), MOST_GIFT);
            for (int x = 1; x <= most; x++) {
                for (int to = 0; to < now.houses; to++) {
                    if (to != house && isFreeBy(rules, house, to, x)) {
                        much = x;
                        whom = to;
                        return;
                    }
                }
            }
            much = UNTOLD;
        }

        private boolean isFreeBy(Rules rules, int house, int to, int x) {
            trial.move(house, to, x);
            boolean isFree = rules.wanted(trial, house) == 0;
            trial.move(to, house, x);
            return isFree;
        }

        void findBestGift(Rules rules, Ring now, int house, int unit, int n) {
            trial.copy(now);
            rules.evenings(trial, n, rules.sharing);
            gain = NONE;
            better(trial.purseOf(house), 0, UNTOLD);
            for (int units = 1; units <= MOST_UNITS_GIVEN && units * unit <= now.shown(house); units++) {
                for (int to = 0; to < now.houses; to++) {
                    if (to == house) continue;
                    trial.copy(now);
                    trial.move(house, to, units * unit);
                    rules.evenings(trial, n, rules.sharing);
                    better(trial.purseOf(house), units * unit, to);
                }
            }
        }

        int rate(Rules rules, Ring now, int a, int b, int x, boolean most) {
            trial.copy(now);
            rules.evening(trial, rules.sharing);
            int without = most ? trial.purseOf(b) : trial.purseOf(a);
            trial.copy(now);
            trial.move(a, b, x);
            rules.evening(trial, rules.sharing);
            trial.move(b, a, Math.min(x, trial.shown(b)));
            return most ? trial.purseOf(b) - without : without - trial.purseOf(a);
        }

        int bestSite(Rules rules, Ring now, int purse) {
            int best = 0;
            long least = Long.MAX_VALUE;
            for (int at = 0; at <= now.houses; at++) {
                trial.copy(now);
                trial.insert(at, purse);
                long sum = 0;
                for (int i = 0; i < trial.houses; i++) sum += rules.wanted(trial, i);
                if (sum < least) {
                    least = sum;
                    best = at;
                }
            }
            return best;
        }
    }

    /** Plans in which each house hides or not, and where they rest. */
    private static final class Plans {
        private final Ring trial = new Ring();
        // For each set of houses that hide, what each house has behind one evening.
        private final int[] gains = new int[MOST_PLANNERS << MOST_PLANNERS];

        int restAt(Rules rules, Ring now, int unit, int i) {
            if (now.houses > MOST_PLANNERS) return UNTOLD;
            int sets = 1 << now.houses;
            for (int set = 0; set < sets; set++) follow(rules, now, unit, set);
            int found = 0;
            for (int set = 0; set < sets; set++) {
                if (!isRest(set, now.houses)) continue;
                if (found == i) return set;
                found++;
            }
            return i == NONE ? found : NONE;
        }

        private void follow(Rules rules, Ring now, int unit, int set) {
            trial.copy(now);
            for (int i = 0; i < MOST_HOUSES && trial.has(i); i++) {
                trial.hidden[i] = ((set >> i) & 1) == 1 ? Math.min(unit, trial.purse[i]) : 0;
            }
            rules.evening(trial, rules.sharing);
            for (int i = 0; i < MOST_PLANNERS && trial.has(i); i++) gains[set * MOST_PLANNERS + i] = trial.purse[i];
        }

        private boolean isRest(int set, int houses) {
            for (int i = 0; i < houses && i < MOST_PLANNERS; i++) {
                int other = set ^ (1 << i);
                if (gains[other * MOST_PLANNERS + i] > gains[set * MOST_PLANNERS + i]) return false;
            }
            return true;
        }
    }

    /** What was told of pays, and the purses that fit. */
    private static final class Told {
        private final int[] houses = new int[MOST_TOLD];
        private final int[] pays = new int[MOST_TOLD];
        private final int[] known = new int[MOST_HOUSES];
        private final int[] lowest = new int[MOST_HOUSES];
        private final int[] row = new int[MOST_HOUSES];
        private final Ring trial = new Ring();
        private int size;
        private int lastKnown;
        private int found;
        private int least;
        private int greatest;

        void clear() {
            size = 0;
        }

        int add(int house, int pay) {
            if (size < 0 || size >= MOST_TOLD) return NONE;
            houses[size] = house;
            pays[size] = pay;
            size++;
            return size - 1;
        }

        int rowsUpTo(int most, int n) {
            int rows = 1;
            for (int i = 0; i < n && rows <= MOST_ROWS; i++) rows *= most + 1;
            return rows;
        }

        void goThroughFits(Rules rules, Ring now, int most, int k, int house) {
            lastKnown = NONE;
            for (int i = 0; i < MOST_HOUSES; i++) {
                known[i] = NONE;
                lowest[i] = 0;
            }
            for (int i = 0; i < k && i < size && i < MOST_TOLD; i++) {
                if (!now.has(houses[i])) continue;
                known[houses[i]] = pays[i];
                lastKnown = Math.max(lastKnown, houses[i]);
            }
            goThrough(rules, now, most, house, false);
        }

        void goThroughAgo(Rules rules, Ring now, int most) {
            lastKnown = now.houses - 1;
            for (int i = 0; i < MOST_HOUSES && now.has(i); i++) lowest[i] = now.purse[i];
            goThrough(rules, now, most, 0, true);
        }

        private void goThrough(Rules rules, Ring now, int most, int house, boolean leavesLowest) {
            found = 0;
            least = most;
            greatest = 0;
            trial.copy(now);
            for (int i = 0; i < MOST_HOUSES && trial.has(i); i++) trial.hidden[i] = 0;
            boolean more = startRows(most);
            for (int rows = 0; rows < MOST_ROWS && more; rows++) {
                for (int i = 0; leavesLowest && i < MOST_HOUSES && trial.has(i); i++) known[i] = row[i] - lowest[i];
                trial.pot = now.pot;
                if (paysAsKnown(rules)) note(house);
                more = stepRow(most);
            }
        }

        private boolean startRows(int most) {
            for (int i = 0; i < MOST_HOUSES && trial.has(i); i++) {
                if (lowest[i] > most) return false;
                row[i] = lowest[i];
            }
            return true;
        }

        private boolean stepRow(int most) {
            for (int i = 0; i < MOST_HOUSES && trial.has(i); i++) {
                if (row[i] < most) {
                    row[i]++;
                    return true;
                }
                row[i] = lowest[i];
            }
            return false;
        }

        private boolean paysAsKnown(Rules rules) {
            for (int i = 0; i < MOST_HOUSES && trial.has(i); i++) trial.purse[i] = row[i];
            for (int i = 0; i <= lastKnown && i < MOST_HOUSES && trial.has(i); i++) {
                if (known[i] == NONE && !rules.turns) continue;
                int paid = rules.wanted(trial, i);
                if (known[i] != NONE && paid != known[i]) return false;
                if (rules.turns) trial.pay(i, paid);
            }
            return true;
        }

        private void note(int house) {
            found++;
            if (house < 0 || house >= MOST_HOUSES) return;
            least = Math.min(least, row[house]);
            greatest = Math.max(greatest, row[house]);
        }
    }
}
