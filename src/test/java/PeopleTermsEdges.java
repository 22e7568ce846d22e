/** Terms, item 1: people and gifts, their bounds, and what each kind does at the bounds. */
final class PeopleTermsEdges {
    private static final int[] ALL_KINDS = {0, 1, 2, 3, 4, 5, 6};

    private final Sentences s;

    PeopleTermsEdges(Sentences s) {
        this.s = s;
    }

    void all() {
        people();
        traits();
        kinds();
        gifts();
        layersAndHands();
        lawAndPaper();
        asItIsBefore();
        writes();
        handsOnTo();
        blind();
        keepsAsAHand();
        keepsByWeight();
        keepsAsAChild();
        weighs();
    }

    private void people() {
        s.terms("1. PEOPLE 0, 1, .. (at most 8),");
        WrappedHands x = new WrappedHands();
        for (int p = 0; p < 8; p++) {
            s.due("one more", p, x.person(0));
        }
        s.due("a 9th", Expect.FULL, x.person(0));
        s.due("how many", 8, x.count(1));
        s.terms("each with NEXT (whom one hands gifts on to: 0 to 7, there or not; the next number at first,"
                + " 0 behind 7),");
        for (int p = 0; p < 8; p++) {
            s.due("NEXT of " + p, p < 7 ? p + 1 : 0, x.of(p, 1));
        }
        WrappedHands y = Scenes.onePerson();
        for (int next = 0; next <= 7; next++) {
            y.change(0, 1, next);
            s.due("NEXT " + next + " of one alone", next, y.of(0, 1));
        }
        s.due("NEXT 8", Expect.BEYOND, y.change(0, 1, 8));
        s.due("NEXT -1", Expect.BEYOND, y.change(0, 1, -1));
    }

    private void traits() {
        s.terms("WISH (whom one writes: 0 to 7; 0 at first),");
        WrappedHands x = Scenes.onePerson();
        s.due("at first", 0, x.of(0, 2));
        s.due("7", 0, x.change(0, 2, 7));
        s.due("8", Expect.BEYOND, x.change(0, 2, 8));
        s.due("-1", Expect.BEYOND, x.change(0, 2, -1));
        s.due("0", 7, x.change(0, 2, 0));
        s.terms("GREED (0 to 99; 50 at first);");
        s.due("at first", 50, x.of(0, 3));
        s.due("99", 50, x.change(0, 3, 99));
        s.due("100", Expect.BEYOND, x.change(0, 3, 100));
        s.due("-1", Expect.BEYOND, x.change(0, 3, -1));
        s.due("0", 99, x.change(0, 3, 0));
    }

    private void kinds() {
        s.terms("of KINDS: 0 HAND; 1 KEEPING, 2 BLIND, 5 CHILD under HAND; 3 IN LAW under KEEPING;"
                + " 4 FORGING under BLIND; 6 IMP under CHILD.");
        String[] lines = {"0", "10", "20", "310", "420", "50", "650"};
        for (int kind : ALL_KINDS) {
            WrappedHands x = Coasts.of(kind);
            x.hold(0, 0);
            for (int asked : ALL_KINDS) {
                boolean is = lines[kind].indexOf('0' + asked) >= 0;
                s.due(kind + " as " + asked, is ? 0 : Expect.KIND, x.as(0, asked));
            }
        }
    }

    private void gifts() {
        s.terms("GIFTS 0, 1, .. (at most 5),");
        WrappedHands x = Scenes.onePerson();
        for (int g = 0; g < 5; g++) {
            s.due("one more", g, x.gift(1, 0, 0));
        }
        s.due("a 6th", Expect.FULL, x.gift(1, 0, 0));
        s.due("how many", 5, x.count(2));
        s.terms("each of WEIGHT (1 to 50),");
        WrappedHands y = Scenes.onePerson();
        s.due("0", Expect.BEYOND, y.gift(0, 0, 0));
        s.due("51", Expect.BEYOND, y.gift(51, 0, 0));
        s.due("1", 0, y.gift(1, 0, 0));
        s.due("50", 1, y.gift(50, 0, 0));
        s.terms("WORTH (0 to 99),");
        s.due("-1", Expect.BEYOND, y.gift(1, -1, 0));
        s.due("100", Expect.BEYOND, y.gift(1, 100, 0));
        s.due("0", 2, y.gift(1, 0, 0));
        s.due("99", 3, y.gift(1, 99, 0));
    }

    private void layersAndHands() {
        s.terms("with LAYERS (a row of at most 12, each with a NAME and the HAND that laid it; none at first),");
        WrappedHands x = longWrapped(12);
        s.due("none at first", 0, Scenes.rich().giftOf(Scenes.BARE, 4));
        s.due("12", 12, x.giftOf(0, 4));
        x.days(1);
        s.due("no 13th", 12, x.giftOf(0, 4));
        s.due("NAME of the 12th", 6, x.layer(0, 11, 0));
        s.due("HAND of the 12th", 1, x.layer(0, 11, 1));
        s.terms("in somebody's HAND (0 at first), or KEPT by one, or WITHIN another GIFT.");
        WrappedHands y = Coasts.hands(2);
        Coasts.read(y, "gift 1");
        s.due("0's at first", 0, y.giftOf(0, 2));
        WrappedHands z = Scenes.rich();
        s.due("in a HAND", 0, z.giftOf(Scenes.BARE, 3));
        s.due("KEPT", 1, z.giftOf(Scenes.KEPT, 3));
        s.due("WITHIN", 2, z.giftOf(Scenes.WITHIN, 3));
    }

    /** Two hands, who write 7 and 6 by turns and never keep by their names. */
    private static WrappedHands longWrapped(int days) {
        WrappedHands x = Coasts.hands(2);
        x.change(0, 2, 7);
        x.change(1, 2, 6);
        x.rule(0, 20);
        x.gift(10, 0, 0);
        for (int d = 0; d < days; d++) {
            x.days(1);
        }
        return x;
    }

    private void lawAndPaper() {
        s.terms("LAW (1 to 20; 9 at first): so many LAYERS and a gift is for who has it (more than 12 never"
                + " come).");
        WrappedHands x = longWrapped(0);
        s.due("9 at first", 9, new WrappedHands().now(4));
        s.due("0", Expect.BEYOND, x.rule(0, 0));
        s.due("21", Expect.BEYOND, x.rule(0, 21));
        int[] keepers = {1, 0, 1, 0, 1, 0, 1, 0, 1, 0, 1, 0};
        for (int law = 1; law <= 20; law++) {
            x.rule(0, law);
            s.due("LAW " + law, law, x.now(4));
            s.due("by LAW " + law, law <= 12 ? keepers[law - 1] : Expect.NONE, x.fate(0));
        }
        s.terms("PAPER (weight of a LAYER: 0 to 9; 1 at first).");
        WrappedHands y = longWrapped(12);
        s.due("1 at first", 22, y.giftOf(0, 5));
        s.due("-1", Expect.BEYOND, y.rule(1, -1));
        s.due("10", Expect.BEYOND, y.rule(1, 10));
        s.due("9", 1, y.rule(1, 9));
        s.due("weight of 12", 118, y.giftOf(0, 5));
        s.due("0", 9, y.rule(1, 0));
        s.due("weightless", 10, y.giftOf(0, 5));
    }

    /** One's own layer, laid on the same day, would change each of these. */
    private void asItIsBefore() {
        s.terms("All of a GIFT as it is before one lays one's own LAYER:");
        WrappedHands x = Coasts.of(Coasts.IMP, Coasts.IN_LAW, Coasts.HAND);
        x.gift(1, 0, 0);
        x.days(1);
        s.due("IMP with no layer goes by NEXT", 1, x.giftOf(0, 2));
        WrappedHands y = Coasts.of(Coasts.HAND, Coasts.IN_LAW, Coasts.HAND, Coasts.HAND);
        y.change(0, 2, 3);
        y.change(1, 2, 0);
        y.gift(1, 0, 0);
        y.days(2);
        s.due("IN LAW by the name below its own", 3, y.giftOf(0, 2));
        WrappedHands z = Coasts.of(Coasts.HAND);
        z.change(0, 2, 0);
        z.gift(1, 0, 0);
        s.due("one's own name, not there yet", 0, z.keeps(0, 0));
        s.due("so it's KEPT on the second day", 2, z.when(0));
        z.change(0, 2, 7);
        z.rule(0, 1);
        s.due("a LAW of 1, too", 2, z.when(0));
        z.rule(1, 9);
        z.change(0, 0, Coasts.KEEPING);
        z.change(0, 3, 10);
        z.rule(0, 20);
        s.due("and what one's own paper weighs", 2, z.when(0));
    }

    private void writes() {
        WrappedHands bare = withLayers(0);
        WrappedHands wrapped = withLayers(2);
        s.terms("WRITES (a NAME): HAND: WISH.");
        s.due("bare", 7, bare.writes(0, 0));
        s.due("wrapped", 7, wrapped.writes(0, 0));
        s.terms("FORGING: the NAME of the outmost LAYER (WISH, if there is none).");
        s.due("one", 4, withLayers(1).writes(Coasts.FORGING, 0));
        s.due("the outmost of two", 5, wrapped.writes(Coasts.FORGING, 0));
        s.due("none", 7, bare.writes(Coasts.FORGING, 0));
        s.terms("CHILD: oneself.");
        s.due("bare", Coasts.CHILD, bare.writes(Coasts.CHILD, 0));
        s.due("wrapped", Coasts.CHILD, wrapped.writes(Coasts.CHILD, 0));
        s.terms("(Others as the KIND above.)");
        int[] names = {7, 7, 7, 7, 5, 5, 6};
        for (int p : ALL_KINDS) {
            s.due("kind " + p, names[p], wrapped.writes(p, 0));
        }
    }

    /** One of each kind, who wishes 7; layers with the names 4 by 0 and 5 by 2, if there are so many. */
    private static WrappedHands withLayers(int many) {
        WrappedHands x = Coasts.of(ALL_KINDS);
        x.gift(10, 0, 0);
        for (int i = 0; i < many; i++) {
            int layer = 2 * i;
            int kind = x.change(layer, 0, Coasts.HAND);
            Coasts.lay(x, layer, 0, 4 + i);
            x.change(layer, 0, kind);
        }
        for (int p : ALL_KINDS) {
            x.change(p, 2, 7);
        }
        return x;
    }

    private void handsOnTo() {
        WrappedHands bare = withLayers(0);
        WrappedHands wrapped = withLayers(2);
        s.terms("HANDS ON TO: HAND: NEXT.");
        s.due("bare", 1, bare.hands(0, 0));
        s.due("wrapped", 1, wrapped.hands(0, 0));
        s.terms("IN LAW: the NAME of the outmost LAYER (NEXT, if there is none).");
        s.due("one", 4, withLayers(1).hands(Coasts.IN_LAW, 0));
        s.due("the outmost of two", 5, wrapped.hands(Coasts.IN_LAW, 0));
        s.due("the outmost of twelve", 2, handedOnFull(Coasts.IN_LAW));
        bare.change(Coasts.IN_LAW, 1, 6);
        s.due("none", 6, bare.hands(Coasts.IN_LAW, 0));
        s.terms("IMP: who laid the outmost LAYER (NEXT, if there is none).");
        s.due("one", 0, withLayers(1).hands(Coasts.IMP, 0));
        s.due("the outmost of two", 2, wrapped.hands(Coasts.IMP, 0));
        s.due("none", 7, bare.hands(Coasts.IMP, 0));
        wrapped.send(0, Coasts.IMP);
        s.due("the outmost of twelve", 1, handedOnFull(Coasts.IMP));
        s.due("AHEAD, too", 2, wrapped.ahead(1, 2));
        wrapped.days(1);
        s.due("a day on", 2, wrapped.giftOf(0, 2));
        s.terms("(Others as the KIND above.)");
        s.due("KEEPING", 2, wrapped.hands(Coasts.KEEPING, 0));
        s.due("CHILD", 6, wrapped.hands(Coasts.CHILD, 0));
        s.due("FORGING as BLIND", 6, wrapped.hands(Coasts.FORGING, 0));
    }

    /** One of a kind who has a gift with twelve layers, the last (the name 2) by 1, hands it on AHEAD. */
    private static int handedOnFull(int kind) {
        WrappedHands x = Coasts.of(Coasts.HAND, Coasts.HAND, Coasts.HAND, kind);
        x.rule(0, 20);
        x.gift(1, 0, 0);
        for (int i = 0; i < 11; i++) {
            Coasts.lay(x, 0, 0, 7);
        }
        Coasts.lay(x, 1, 0, 2);
        x.send(0, 3);
        return x.ahead(1, 2);
    }

    private void blind() {
        s.terms("BLIND: NEXT of NEXT (NEXT, if that one isn't there).");
        int[] kinds = {Coasts.BLIND, Coasts.FORGING};
        for (int kind : kinds) {
            WrappedHands x = Coasts.of(kind, Coasts.HAND);
            x.gift(1, 0, 0);
            x.change(1, 1, 0);
            s.due("NEXT of NEXT", 0, x.hands(0, 0));
            x.change(1, 1, 5);
            s.due("whom NEXT tells, there or not", 5, x.hands(0, 0));
            x.change(0, 1, 2);
            s.due("NEXT, the first who isn't there", 2, x.hands(0, 0));
            x.change(0, 1, 7);
            s.due("NEXT, the last number", 7, x.hands(0, 0));
            x.change(0, 1, 0);
            s.due("NEXT is oneself", 0, x.hands(0, 0));
        }
        WrappedHands y = Coasts.hands(8);
        y.change(6, 0, Coasts.BLIND);
        y.gift(1, 0, 6);
        s.due("behind 7 comes 0", 0, y.hands(6, 0));
    }

    private void keepsAsAHand() {
        s.terms("KEEPS (whether, coming by it): HAND: if one is the NAME of the inmost LAYER, or it has as many"
                + " LAYERS as LAW or more.");
        WrappedHands x = withLayers(2);
        x.change(4, 0, Coasts.HAND);
        x.change(5, 0, Coasts.HAND);
        s.due("the inmost's", 1, x.keeps(4, 0));
        s.due("the outmost's", 0, x.keeps(5, 0));
        s.due("who laid the inmost", 0, x.keeps(0, 0));
        x.rule(0, 3);
        s.due("LAW of one more", 0, x.keeps(0, 0));
        x.rule(0, 2);
        s.due("LAW of as many", 1, x.keeps(0, 0));
        x.rule(0, 1);
        s.due("LAW of fewer", 1, x.keeps(0, 0));
        s.due("no layer, LAW of 1", 0, lawOfOne().keeps(0, 0));
    }

    private static WrappedHands lawOfOne() {
        WrappedHands x = withLayers(0);
        x.rule(0, 1);
        return x;
    }

    private void keepsByWeight() {
        s.terms("KEEPING: as a HAND, or if it WEIGHS as much as GREED or more.");
        WrappedHands x = withLayers(2);
        int[] greedy = {Coasts.KEEPING, Coasts.IN_LAW};
        for (int p : greedy) {
            x.change(p, 3, 13);
            s.due("12 of 13", 0, x.keeps(p, 0));
            x.change(p, 3, 12);
            s.due("12 of 12", 1, x.keeps(p, 0));
            x.change(p, 3, 11);
            s.due("12 of 11", 1, x.keeps(p, 0));
            x.change(p, 3, 0);
            s.due("a greed of 0, no layer", 1, keepsAtNoGreed(p));
            x.change(p, 3, 99);
            x.rule(0, 2);
            s.due("by LAW, as a HAND", 1, x.keeps(p, 0));
            x.rule(0, 9);
        }
        s.due("a HAND has no greed", 0, keepsAtNoGreed(Coasts.HAND));
        s.due("nor a CHILD", 0, keepsAtNoGreed(Coasts.CHILD));
        s.due("by name, as a HAND", 1, namedInmost(Coasts.KEEPING, 1));
    }

    private static int keepsAtNoGreed(int p) {
        WrappedHands x = withLayers(0);
        x.change(p, 3, 0);
        return x.keeps(p, 0);
    }

    /** Whether one of a kind keeps what has that one's name inmost, and so many layers. */
    private static int namedInmost(int kind, int layers) {
        WrappedHands x = Coasts.of(Coasts.HAND, kind);
        x.gift(1, 0, 0);
        for (int i = 0; i < layers; i++) {
            Coasts.lay(x, 0, 0, i == 0 ? 1 : 7);
        }
        return x.keeps(1, 0);
    }

    private void keepsAsAChild() {
        s.terms("CHILD: as a HAND, but not with fewer than 2 LAYERS.");
        int[] young = {Coasts.CHILD, Coasts.IMP};
        for (int kind : young) {
            s.due("named, 1 layer", 0, namedInmost(kind, 1));
            s.due("named, 2 layers", 1, namedInmost(kind, 2));
            s.due("named, 3 layers", 1, namedInmost(kind, 3));
            s.due("LAW of 1, no layer", 0, lawOfOne().keeps(kind, 0));
        }
        WrappedHands x = withLayers(1);
        x.rule(0, 1);
        s.due("LAW of 1, 1 layer", 0, x.keeps(Coasts.CHILD, 0));
        WrappedHands y = withLayers(2);
        s.due("2 layers, another's name", 0, y.keeps(Coasts.CHILD, 0));
        y.rule(0, 2);
        s.due("LAW of 2, 2 layers", 1, y.keeps(Coasts.CHILD, 0));
        s.terms("(Others as the KIND above.)");
        y.rule(0, 9);
        s.due("BLIND, named", 1, namedInmost(Coasts.BLIND, 1));
        s.due("FORGING, named", 1, namedInmost(Coasts.FORGING, 1));
        s.due("IN LAW, named", 1, namedInmost(Coasts.IN_LAW, 1));
        s.due("IMP, 2 layers by another's name", 0, y.keeps(Coasts.IMP, 0));
    }

    private void weighs() {
        s.terms("WEIGHS: WEIGHT, PAPER for each LAYER, and what each GIFT WITHIN WEIGHS.");
        WrappedHands x = Scenes.onePerson();
        for (int g = 0; g < 5; g++) {
            x.gift(50, 0, 0);
        }
        s.due("1 in 0", 100, x.skin(1, 0));
        s.due("2 in 0", 150, x.skin(2, 0));
        s.due("3 in 4", 100, x.skin(3, 4));
        s.due("4 with 3 in 0", 250, x.skin(4, 0));
        x.rule(1, 9);
        x.rule(0, 20);
        x.change(0, 2, 7);
        s.due("no layer, no paper", 250, x.giftOf(0, 5));
        x.days(1);
        s.due("one layer", 259, x.giftOf(0, 5));
        x.days(20);
        s.due("twelve", 358, x.giftOf(0, 5));
        s.due("what lies in it has none", 100, x.giftOf(4, 5));
    }
}
