/** Coasts with something of everything, on which calls are refused. */
final class Scenes {
    /** Who isn't there on rich(), where 0 to 6 are, one of each kind, by the kind's number. */
    static final int NOBODY = 7;

    /** The gifts of rich(): KEPT by 1; in the HAND of 2 with layers 3 by 0 and 0 by 1; the others 5's. */
    static final int KEPT = 0;
    static final int WRAPPED = 1;
    static final int WITHIN = 2;
    static final int OUTER = 3;
    static final int BARE = 4;
    static final int NO_GIFT = 5;

    /** The sheets of rich(). */
    static final int EIGHT = 0;
    static final int SIXTEEN = 1;
    static final int OTHER_SIXTEEN = 2;
    static final int MISSING = 3;

    static final int[] NO_PEOPLE = {Integer.MIN_VALUE, -1, NOBODY, 8, Integer.MAX_VALUE};
    static final int[] NO_GIFTS = {Integer.MIN_VALUE, -1, NO_GIFT, Integer.MAX_VALUE};
    static final int[] NO_SHEETS = {Integer.MIN_VALUE, -1, 4, Integer.MAX_VALUE};
    static final int[] NOT_IN_A_HAND = {KEPT, WITHIN};

    private Scenes() {
    }

    static WrappedHands empty() {
        return new WrappedHands();
    }

    static WrappedHands onePerson() {
        return Coasts.of(Coasts.HAND);
    }

    static WrappedHands rich() {
        return furnish(new WrappedHands());
    }

    static WrappedHands fullOfPeople() {
        WrappedHands x = rich();
        x.person(Coasts.HAND);
        return x;
    }

    /** All gifts in hands but BARE go round. */
    static WrappedHands rounds() {
        WrappedHands x = rich();
        x.rule(0, 20);
        return x;
    }

    /** DAY is 9990. */
    static WrappedHands lastDays() {
        return furnish(onDay(9988));
    }

    /** DAY is 9999. */
    static WrappedHands lastDay() {
        return furnish(onDay(9997));
    }

    static WrappedHands onDay(int day) {
        WrappedHands x = new WrappedHands();
        for (int left = day; left > 0; left -= 60) {
            x.days(Math.min(left, 60));
        }
        return x;
    }

    /** THE TAPE has 119 bytes. */
    static WrappedHands nearlyFullTape() {
        WrappedHands x = rich();
        x.wipe();
        for (int i = 0; i < 29; i++) {
            x.feed(0x6c617720, 4);
        }
        x.feed(0x6c6177, 3);
        return x;
    }

    /** As rich(), but nothing is kept. */
    static WrappedHands torn() {
        WrappedHands x = rich();
        x.tear();
        return x;
    }

    /**
     * A gift KEPT as late as can be: 0, 1 and 2 hand it round, 2 (IN LAW) by the name 0 that 1 wrote, till 2's
     * own 3 is outmost for good; then it goes by 0, 1, 2, 3, 5, 6, 4 to 7, whose name is inmost.
     */
    static WrappedHands latest() {
        WrappedHands x = Coasts.hands(8);
        x.change(2, 0, Coasts.IN_LAW);
        int[] next = {1, 2, 1, 5, 7, 6, 4, 4};
        int[] wish = {7, 0, 3, 0, 0, 0, 0, 0};
        for (int p = 0; p < 8; p++) {
            x.change(p, 1, next[p]);
            x.change(p, 2, wish[p]);
        }
        x.rule(0, 20);
        x.gift(1, 0, 0);
        return x;
    }

    private static WrappedHands furnish(WrappedHands x) {
        for (int kind = 0; kind <= 6; kind++) {
            x.person(kind);
        }
        x.change(0, 2, 3);
        x.rule(1, 2);
        x.gift(50, 9, 1);
        x.gift(5, 10, 0);
        x.seed(12345);
        x.hold(0, 1);
        x.image();
        x.days(2);
        x.gift(6, 20, 5);
        x.gift(7, 30, 5);
        x.gift(8, 40, 5);
        x.skin(WITHIN, OUTER);
        x.hold(3, 6);
        x.hold(9, 3);
        x.sheet(EIGHT, 8, 3);
        x.write(EIGHT, 0, 4);
        x.write(EIGHT, 2, 6);
        x.sheet(SIXTEEN, 16, 4);
        x.write(SIXTEEN, 1, 5);
        x.sheet(OTHER_SIXTEEN, 16, 2);
        x.feed(0x6c617720, 4);
        x.feed('7', 1);
        return x;
    }
}
