/** Looks at all of an object that answers can tell, so that two objects can be compared as a whole. */
final class Whole {
    interface Make {
        RingPurses make();
    }

    interface Call {
        long of(RingPurses x);
    }

    private Whole() {
    }

    static long yes(boolean answer) {
        return answer ? 1 : 0;
    }

    /** What stands now. */
    static String now(RingPurses x) {
        StringBuilder s = new StringBuilder("counts");
        for (int what = 0; what <= 12; what++) s.append(' ').append(x.count(what));
        int houses = x.count(0);
        for (int i = 0; i < houses; i++) {
            s.append("; house ").append(i);
            for (int what = 0; what <= 6; what++) s.append(' ').append(x.house(i, what));
        }
        return s.append('\n').toString();
    }

    private static String brief(RingPurses x) {
        StringBuilder s = new StringBuilder();
        int houses = x.count(0);
        s.append(houses).append(' ').append(x.count(5)).append(' ').append(x.count(6)).append(' ').append(x.count(8));
        for (int i = 0; i < houses; i++) {
            s.append("; ").append(x.house(i, 0)).append(' ').append(x.house(i, 1));
            s.append(' ').append(x.house(i, 5)).append(' ').append(x.house(i, 6));
        }
        return s.append('\n').toString();
    }

    private static String told(RingPurses x) {
        StringBuilder s = new StringBuilder("fits");
        int most = x.count(0) <= 3 ? 20 : 1;
        int all = x.count(11);
        // of many some, for the calls of an object are counted
        for (int k = 0; k <= all; k += all > 5 ? 4 : 1) s.append(' ').append(x.fits(most, k));
        return s.append('\n').toString();
    }

    private static String undone(RingPurses x) {
        StringBuilder s = new StringBuilder();
        for (int i = 0; i <= 30 && x.undo(); i++) s.append("undone ").append(brief(x));
        return s.toString();
    }

    private static String goneOnFrom(RingPurses x) {
        StringBuilder s = new StringBuilder();
        for (int slot = 0; slot <= 2; slot++) {
            if (x.restore(slot)) s.append("slot ").append(slot).append(' ').append(brief(x));
        }
        return s.toString();
    }

    /** What the laws do, seen on houses that surely stand. */
    private static String lawful(RingPurses x) {
        if (x.count(0) == 0) {
            x.build(0, 40);
            x.build(1, 70);
            x.build(2, 9);
        }
        x.run(3);
        return "evenings " + brief(x);
    }

    /**
     * All that can be asked of an object, and all that undoing, restoring and reading bring out; it is used up by this.
     * With ten houses and three slots these are some 450 calls, of the 512 that an object is used for.
     */
    static String of(RingPurses x) {
        String s = now(x) + told(x) + undone(x) + goneOnFrom(x) + lawful(x);
        return s + "read " + x.read() + ' ' + x.place() + ' ' + now(x);
    }

    static void same(String what, RingPurses x, RingPurses y) {
        String one = of(x);
        String other = of(y);
        Check.due(what, one.equals(other), true);
        if (!one.equals(other)) System.out.println(one + "is not\n" + other);
    }

    /** A call that answers so and changes nothing. */
    static void stays(String call, Make make, long want, Call c) {
        RingPurses x = make.make();
        Check.due(call, c.of(x), want);
        same(call + ": nothing happens", x, make.make());
    }
}
