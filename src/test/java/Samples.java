/** Objects behind a history, for tests of what changes nothing and of what takes their place. */
final class Samples {
    private Samples() {
    }

    /** A ring of three, with a tape, told pays, two slots and things done. */
    static RingPurses ring() {
        RingPurses x = new RingPurses();
        Check.read(x, "house a 30;house b 4;house c 17;pays=gap/2+pot/9+lot/50;earns=left/8+day;shared round 2;seed 5;");
        x.run(3);
        x.hide(0, 3);
        x.hold(0);
        x.give(0, 2, 1);
        x.hold(2);
        x.tell(0, 1);
        x.tell(2, 3);
        Check.feed(x, "house z 5;");
        return x;
    }

    /** A street of two by turns; the last thing done was a house burnt. */
    static RingPurses street() {
        RingPurses x = new RingPurses();
        Check.read(x, "street;turns;house a 50;house b 9;house c 1;pays=left/2;earns=3;shared most 3;");
        x.run(4);
        x.hold(1);
        x.hide(1, 2);
        x.burn(2);
        x.tell(1, 0);
        Check.feed(x, "street");
        return x;
    }

    /** No houses, but a pot. */
    static RingPurses none() {
        RingPurses x = new RingPurses();
        Check.read(x, "house a 5;pays=own;earns=1;shared round 3;");
        x.run(2);
        x.burn(0);
        x.hold(2);
        Check.feed(x, "#");
        return x;
    }

    /** Ten houses, twenty told pays, all slots held. */
    static RingPurses full() {
        RingPurses x = new RingPurses();
        StringBuilder text = new StringBuilder("pays=lot/9;shared most 2;seed 3;");
        for (int i = 0; i < 10; i++) text.append("house ").append((char) ('a' + i)).append(' ').append(90 + i).append(';');
        Check.read(x, text.toString());
        x.hold(0);
        x.run(3);
        x.hold(1);
        x.hide(9, 4);
        x.hold(2);
        for (int i = 0; i < 20; i++) x.tell(i % 10, i / 10);
        Check.feed(x, "house a 1;house a 2;");
        return x;
    }
}
