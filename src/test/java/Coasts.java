/** Coasts that several tests begin with. */
final class Coasts {
    static final int HAND = 0;
    static final int KEEPING = 1;
    static final int BLIND = 2;
    static final int IN_LAW = 3;
    static final int FORGING = 4;
    static final int CHILD = 5;
    static final int IMP = 6;

    private Coasts() {
    }

    /** People of these kinds, as they are made: next the number behind, wish 0, greed 50. */
    static WrappedHands of(int... kinds) {
        WrappedHands x = new WrappedHands();
        for (int kind : kinds) {
            x.person(kind);
        }
        return x;
    }

    /** People of these kinds who hand on in a ring. */
    static WrappedHands ring(int... kinds) {
        WrappedHands x = of(kinds);
        if (kinds.length > 0) {
            x.change(kinds.length - 1, 1, 0);
        }
        return x;
    }

    static WrappedHands hands(int many) {
        return ring(new int[many]);
    }

    /** 0 writes 2, hands on to 1, who hands on to 2, who finds the own name on the inside. */
    static WrappedHands ringToTwo() {
        WrappedHands x = hands(3);
        x.change(0, 2, 2);
        x.gift(5, 10, 0);
        return x;
    }

    /** What the tape gets, a byte a call. */
    static void feed(WrappedHands x, String text) {
        for (int i = 0; i < text.length(); i++) {
            x.feed(text.charAt(i), 1);
        }
    }

    static int read(WrappedHands x, String text) {
        x.wipe();
        feed(x, text);
        return x.text();
    }

    /** A layer with a name of one's choice, laid by one of kind HAND who doesn't keep the gift. */
    static void lay(WrappedHands x, int person, int gift, int name) {
        int law = x.rule(0, 20);
        int was = x.change(person, 2, name);
        int from = x.send(gift, person);
        x.days(1);
        x.change(person, 2, was);
        x.send(gift, from);
        x.rule(0, law);
    }
}
