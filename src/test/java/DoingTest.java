/** Promises 12 to 14: what one of each kind would do. */
public final class DoingTest {
    private static final Expect expect = new Expect("DoingTest");
    private static final int[] ALL_KINDS = {0, 1, 2, 3, 4, 5, 6};

    public static void main(String[] args) {
        wrongInputs();
        withoutLayers();
        withLayers();
        blindNext();
        keepsByName();
        keepsByLaw();
        keepsByWeight();
        fullGift();
        ofGiftsThatAreNotInHands();
        expect.close();
    }

    private static void wrongInputs() {
        WrappedHands x = Coasts.of(Coasts.HAND);
        x.gift(1, 0, 0);
        int[][] pairs = {{-1, 0}, {1, 0}, {0, -1}, {0, 1}, {8, 0}, {0, 5}};
        for (int[] pair : pairs) {
            expect.due("writes", Expect.BEYOND, x.writes(pair[0], pair[1]));
            expect.due("hands", Expect.BEYOND, x.hands(pair[0], pair[1]));
            expect.due("keeps", Expect.BEYOND, x.keeps(pair[0], pair[1]));
        }
        expect.due("all found", 18, x.status(0));
    }

    /** One of each kind, with wish 7 and next the number behind; the gift was laid by nobody. */
    private static void withoutLayers() {
        WrappedHands x = Coasts.of(ALL_KINDS);
        x.gift(10, 0, 0);
        int[] names = {7, 7, 7, 7, 7, 5, 6};
        // BLIND and FORGING hand on to the next of their next.
        int[] receivers = {1, 2, 4, 4, 6, 6, 7};
        for (int p = 0; p < 7; p++) {
            x.change(p, 2, 7);
            expect.due("bare: writes " + p, names[p], x.writes(p, 0));
            expect.due("bare: hands " + p, receivers[p], x.hands(p, 0));
            expect.due("bare: keeps " + p, 0, x.keeps(p, 0));
        }
    }

    /** Layers: name 3 by 0, then name 4 by 2. */
    private static void withLayers() {
        WrappedHands x = Coasts.of(ALL_KINDS);
        x.change(2, 0, Coasts.HAND);
        x.gift(10, 0, 0);
        Coasts.lay(x, 0, 0, 3);
        Coasts.lay(x, 2, 0, 4);
        x.change(2, 0, Coasts.BLIND);
        expect.due("inmost", 3, x.layer(0, 0, 0));
        expect.due("outmost", 4, x.layer(0, 1, 0));
        int[] names = {7, 7, 7, 7, 4, 5, 6};
        int[] receivers = {1, 2, 4, 4, 6, 6, 2};
        for (int p = 0; p < 7; p++) {
            x.change(p, 2, 7);
            expect.due("wrapped: writes " + p, names[p], x.writes(p, 0));
            expect.due("wrapped: hands " + p, receivers[p], x.hands(p, 0));
        }
        x.change(3, 1, 0);
        expect.due("IN LAW goes by the NAME", 4, x.hands(3, 0));
        x.open(0);
        expect.due("IN LAW by the NAME below", 3, x.hands(3, 0));
        expect.due("IMP by the HAND below", 0, x.hands(6, 0));
        expect.due("FORGING by the NAME below", 3, x.writes(4, 0));
    }

    private static void blindNext() {
        WrappedHands x = Coasts.of(Coasts.BLIND, Coasts.HAND);
        x.gift(1, 0, 0);
        expect.due("NEXT of NEXT, who isn't there", 2, x.hands(0, 0));
        x.change(1, 1, 0);
        expect.due("NEXT of NEXT: oneself", 0, x.hands(0, 0));
        x.change(0, 1, 6);
        expect.due("NEXT isn't there", 6, x.hands(0, 0));
        x.change(0, 1, 0);
        expect.due("NEXT is oneself", 0, x.hands(0, 0));
        x.change(0, 0, Coasts.FORGING);
        x.change(0, 1, 1);
        x.change(1, 1, 5);
        expect.due("FORGING as BLIND", 5, x.hands(0, 0));
    }

    /** Each is named on the inmost layer; then on the outmost alone. */
    private static void keepsByName() {
        for (int p = 0; p < 7; p++) {
            WrappedHands x = Coasts.of(ALL_KINDS);
            x.person(Coasts.HAND);
            x.gift(10, 0, 7);
            Coasts.lay(x, 7, 0, p);
            boolean young = p == Coasts.CHILD || p == Coasts.IMP;
            expect.due("named, one layer: keeps " + p, young ? 0 : 1, x.keeps(p, 0));
            expect.due("not named: keeps " + (p + 1) % 7, 0, x.keeps((p + 1) % 7, 0));
            Coasts.lay(x, 7, 0, (p + 1) % 7);
            expect.due("named, two layers: keeps " + p, 1, x.keeps(p, 0));
            expect.due("named outmost: keeps " + (p + 1) % 7, 0, x.keeps((p + 1) % 7, 0));
        }
    }

    private static void keepsByLaw() {
        WrappedHands x = Coasts.of(ALL_KINDS);
        x.person(Coasts.HAND);
        x.gift(10, 0, 7);
        x.rule(0, 1);
        for (int p = 0; p < 7; p++) {
            expect.due("law of 1, no layer: keeps " + p, 0, x.keeps(p, 0));
        }
        Coasts.lay(x, 7, 0, 7);
        for (int p = 0; p < 7; p++) {
            expect.due("law of 1, one layer: keeps " + p, p < 5 ? 1 : 0, x.keeps(p, 0));
        }
        Coasts.lay(x, 1, 0, 7);
        for (int law = 1; law <= 3; law++) {
            x.rule(0, law);
            for (int p = 0; p < 7; p++) {
                expect.due("law of " + law + ", two layers: keeps " + p, law < 3 ? 1 : 0, x.keeps(p, 0));
            }
        }
    }

    private static void keepsByWeight() {
        WrappedHands x = Coasts.of(ALL_KINDS);
        x.person(Coasts.HAND);
        x.rule(1, 9);
        x.gift(30, 0, 7);
        x.gift(2, 0, 7);
        x.skin(1, 0);
        Coasts.lay(x, 7, 0, 7);
        for (int p = 0; p < 7; p++) {
            x.change(p, 3, 41);
            boolean greedy = p == Coasts.KEEPING || p == Coasts.IN_LAW;
            expect.due("WEIGHS 41, greed 41: keeps " + p, greedy ? 1 : 0, x.keeps(p, 0));
            x.change(p, 3, 42);
            expect.due("WEIGHS 41, greed 42: keeps " + p, 0, x.keeps(p, 0));
            x.change(p, 3, 0);
            expect.due("greed 0: keeps " + p, greedy ? 1 : 0, x.keeps(p, 1));
        }
    }

    private static void fullGift() {
        WrappedHands x = Coasts.hands(3);
        x.change(0, 2, 7);
        x.gift(1, 0, 0);
        x.rule(0, 13);
        x.days(20);
        expect.due("12 layers", 12, x.giftOf(0, 4));
        expect.due("a law of 13 is never met", 0, x.keeps(1, 0));
        x.rule(0, 12);
        expect.due("one of 12 is", 1, x.keeps(1, 0));
    }

    private static void ofGiftsThatAreNotInHands() {
        WrappedHands x = Coasts.of(Coasts.KEEPING, Coasts.HAND);
        x.gift(50, 0, 0);
        x.gift(1, 0, 1);
        x.gift(1, 0, 1);
        x.skin(1, 2);
        x.days(1);
        expect.due("KEPT", 1, x.giftOf(0, 3));
        expect.due("writes on a KEPT one", 0, x.writes(1, 0));
        expect.due("hands a KEPT one", 2, x.hands(1, 0));
        expect.due("keeps a KEPT one", 1, x.keeps(0, 0));
        expect.due("writes on one WITHIN", 0, x.writes(1, 1));
        expect.due("hands one WITHIN", 1, x.hands(0, 1));
        expect.due("keeps one WITHIN", 0, x.keeps(0, 1));
    }
}
