/** What the tests share: answers that are due, and texts fed byte by byte. */
final class Check {
    private static int wrong = 0;
    private static int asked = 0;

    private Check() {
    }

    static void due(String call, long got, long want) {
        asked++;
        if (got == want) return;
        wrong++;
        System.out.println(call + " answered " + got + ", due is " + want);
    }

    static void due(String call, boolean got, boolean want) {
        due(call, got ? 1 : 0, want ? 1 : 0);
    }

    static void due(String call, String got, String want) {
        asked++;
        if (got.equals(want)) return;
        wrong++;
        System.out.println(call + " answered " + got + ", due is " + want);
    }

    static void fail(String what) {
        asked++;
        wrong++;
        System.out.println(what);
    }

    static int wrongSoFar() {
        return wrong;
    }

    static void end() {
        System.out.println(wrong == 0 ? asked + " answers are as due" : wrong + " of " + asked + " answers are not as due");
        if (wrong != 0) System.exit(1);
    }

    static int word(byte[] bytes, int from) {
        int word = 0;
        for (int i = from; i < from + 4; i++) word = word << 8 | (i < bytes.length ? bytes[i] & 255 : 0);
        return word;
    }

    /** Feeds just these signs (0 to 255); the text is one that has room on the tape when filled up to twenties. */
    static void feed(RingPurses x, String text) {
        byte[] bytes = new byte[text.length()];
        for (int i = 0; i < bytes.length; i++) bytes[i] = (byte) text.charAt(i);
        int fed = 0;
        for (; fed < bytes.length; fed += 20) {
            x.feed(word(bytes, fed), word(bytes, fed + 4), word(bytes, fed + 8), word(bytes, fed + 12), word(bytes, fed + 16));
        }
        x.back(fed - bytes.length);
    }

    static int read(RingPurses x, String text) {
        feed(x, text);
        return x.read();
    }

    static RingPurses of(String text) {
        RingPurses x = new RingPurses();
        due("read of " + text, read(x, text), 0);
        return x;
    }

    /** A text that tells houses a, b and on with these purses. */
    static String houses(int... purses) {
        StringBuilder s = new StringBuilder();
        for (int i = 0; i < purses.length; i++) s.append("house ").append((char) ('a' + i)).append(' ').append(purses[i]).append(';');
        return s.toString();
    }

    /** A text that is read with this fault at this place. */
    static void fault(String text, int fault, int place) {
        RingPurses x = new RingPurses();
        String shown = text.length() > 120 ? text.substring(0, 120) + ".." : text;
        due("read of " + shown, read(x, text), fault);
        due("place in " + shown, x.place(), place);
    }
}
