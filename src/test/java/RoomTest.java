import java.lang.management.ManagementFactory;

/** What a run makes: little with the object, nothing by a call. */
final class RoomTest {
    private static final long MOST_BYTES_OF_AN_OBJECT = 120_000;
    private static final long MOST_BYTES_OF_CALLS = 20_000;

    private static final com.sun.management.ThreadMXBean THREADS =
        (com.sun.management.ThreadMXBean) ManagementFactory.getThreadMXBean();

    public static void main(String[] args) {
        call(new RingPurses(), 40);
        long start = made();
        RingPurses x = new RingPurses();
        long object = made() - start;
        Check.due("bytes of an object (" + object + ") are few", object <= MOST_BYTES_OF_AN_OBJECT, true);
        start = made();
        call(x, 40);
        long calls = made() - start;
        Check.due("bytes of calls (" + calls + ") are few", calls <= MOST_BYTES_OF_CALLS, true);
        Check.end();
    }

    private static long made() {
        return THREADS.getThreadAllocatedBytes(Thread.currentThread().getId());
    }

    private static final int[] TEXT = words("house a 900;house b 4;house c 7; house d 1;turns;pays=gap+lot/20;earns=own/9+day;shared round 2;");

    private static int[] words(String text) {
        int[] words = new int[(text.length() + 19) / 20 * 5];
        byte[] bytes = new byte[4 * words.length];
        for (int i = 0; i < bytes.length; i++) bytes[i] = i < text.length() ? (byte) text.charAt(i) : (byte) ' ';
        for (int i = 0; i < words.length; i++) words[i] = Check.word(bytes, 4 * i);
        return words;
    }

    private static int call(RingPurses x, int times) {
        int sum = 0;
        for (int i = 0; i < times; i++) {
            for (int w = 0; w + 4 < TEXT.length; w += 5) {
                sum += x.feed(TEXT[w], TEXT[w + 1], TEXT[w + 2], TEXT[w + 3], TEXT[w + 4]);
            }
            sum += x.read() + x.place() + x.run(3) + x.build(1, 5) + x.grab(0) + x.join(2) + x.burn(1);
            sum += (x.give(0, 1, 2) ? 1 : 0) + (x.hide(0, 1) ? 1 : 0) + (x.undo() ? 1 : 0);
            sum += x.becomes(0) + x.apart(20) + x.even(3, 1) + x.soonest(1) + x.start(0, 1) + x.wealth(0, 1, 1);
            sum += x.free(0, 0) + x.best(0, 2, 3, 2) + x.loan(0, 1, 1, true) + x.site(7) + x.rests(3, -1);
            sum += x.tell(0, 1) + x.fits(5, 1) + x.span(5, 1, 0) + x.ago(5) + x.forget();
            sum += (x.hold(1) ? 1 : 0) + (x.restore(1) ? 1 : 0) + x.count(7) + x.house(0, 4) + x.back(0);
        }
        return sum;
    }
}
