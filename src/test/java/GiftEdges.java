/** Promises 5 to 14: gifts, and what one would do with them. */
final class GiftEdges {
    private static final int[] NO_WHATS = {Integer.MIN_VALUE, -1, 6, Integer.MAX_VALUE};

    private final Sentences s;

    GiftEdges(Sentences s) {
        this.s = s;
    }

    void all() {
        gift();
        giftOf();
        layer();
        rule();
        send();
        open();
        skin();
        skinState();
        writes();
        hands();
        keeps();
    }

    private void gift() {
        s.promise(5, "A new GIFT in somebody's HAND: its number.");
        WrappedHands x = Coasts.hands(8);
        int[] weights = {1, 50, 1, 50, 25};
        int[] worths = {0, 99, 99, 0, 50};
        int[] people = {0, 7, 7, 0, 3};
        for (int g = 0; g < 5; g++) {
            s.due("one more", g, x.gift(weights[g], worths[g], people[g]));
            s.due("WEIGHT", weights[g], x.giftOf(g, 0));
            s.due("WORTH", worths[g], x.giftOf(g, 1));
            s.due("in whose HAND", people[g], x.giftOf(g, 2));
            s.due("how it is", 0, x.giftOf(g, 3));
            s.due("LAYERS", 0, x.giftOf(g, 4));
        }
        s.promise(5, "BEYOND.");
        int[] weightless = {Integer.MIN_VALUE, -1, 0, 51, Integer.MAX_VALUE};
        int[] worthless = {Integer.MIN_VALUE, -1, 100, Integer.MAX_VALUE};
        int[] nobody = {Integer.MIN_VALUE, -1, 1, 8, Integer.MAX_VALUE};
        s.refusedWith(weightless, Scenes::onePerson, Expect.BEYOND, "gift(?, 0, 0)", (y, v) -> y.gift(v, 0, 0));
        s.refusedWith(worthless, Scenes::onePerson, Expect.BEYOND, "gift(1, ?, 0)", (y, v) -> y.gift(1, v, 0));
        s.refusedWith(nobody, Scenes::onePerson, Expect.BEYOND, "gift(1, 0, ?)", (y, v) -> y.gift(1, 0, v));
        s.refusedWith(Scenes.NO_PEOPLE, Scenes::rich, Expect.BEYOND, "gift(1, 0, ?) of five",
                (y, v) -> y.gift(1, 0, v));
        s.refused(Scenes::empty, Expect.BEYOND, "gift(1, 0, 0) with nobody there", y -> y.gift(1, 0, 0));
        s.promise(5, "FULL.");
        s.refused(Scenes::rich, Expect.FULL, "gift(1, 0, 0)", y -> y.gift(1, 0, 0));
        s.refused(Scenes::rich, Expect.FULL, "gift(50, 99, 6)", y -> y.gift(50, 99, 6));
    }

    private void giftOf() {
        s.promise(6, "Of a GIFT: what 0 WEIGHT, 1 WORTH, 2 in whose HAND, or by whom KEPT (-1: WITHIN another one),"
                + " 3 how it is (0 in a HAND, 1 KEPT, 2 WITHIN), 4 how many LAYERS, 5 what it WEIGHS.");
        int[][] due = {
            {50, 9, 1, 1, 0, 50}, {5, 10, 2, 0, 2, 9}, {6, 20, -1, 2, 0, 6}, {7, 30, 5, 0, 0, 13},
            {8, 40, 5, 0, 0, 8}};
        WrappedHands x = Scenes.rich();
        for (int g = 0; g < due.length; g++) {
            for (int what = 0; what <= 5; what++) {
                s.due("giftOf(" + g + ", " + what + ")", due[g][what], x.giftOf(g, what));
            }
        }
        s.promise(6, "BEYOND.");
        s.refusedWith(Scenes.NO_GIFTS, Scenes::rich, Expect.BEYOND, "giftOf(?, 0)", (y, v) -> y.giftOf(v, 0));
        s.refusedWith(Scenes.NO_GIFTS, Scenes::rich, Expect.BEYOND, "giftOf(?, 5)", (y, v) -> y.giftOf(v, 5));
        s.refusedWith(NO_WHATS, Scenes::rich, Expect.BEYOND, "giftOf(0, ?)", (y, v) -> y.giftOf(0, v));
        s.refused(Scenes::onePerson, Expect.BEYOND, "giftOf(0, 0) of no gifts", y -> y.giftOf(0, 0));
    }

    private void layer() {
        s.promise(7, "Of LAYER i of a GIFT (0: inmost): what 0 NAME, 1 HAND.");
        WrappedHands x = Scenes.rich();
        s.due("layer(1, 0, 0)", 3, x.layer(Scenes.WRAPPED, 0, 0));
        s.due("layer(1, 0, 1)", 0, x.layer(Scenes.WRAPPED, 0, 1));
        s.due("layer(1, 1, 0)", 0, x.layer(Scenes.WRAPPED, 1, 0));
        s.due("layer(1, 1, 1)", 1, x.layer(Scenes.WRAPPED, 1, 1));
        WrappedHands z = Scenes.rounds();
        z.days(10);
        s.due("layer 11 of 12", 6, z.layer(Scenes.WRAPPED, 11, 0));
        s.promise(7, "BEYOND: i 0 to 11, too.");
        int[] noLayers = {Integer.MIN_VALUE, -1, 12, Integer.MAX_VALUE};
        int[] noWhats = {Integer.MIN_VALUE, -1, 2, Integer.MAX_VALUE};
        int[] gifts = {Scenes.KEPT, Scenes.WRAPPED, Scenes.BARE};
        for (int g : gifts) {
            s.refusedWith(noLayers, Scenes::rich, Expect.BEYOND, "layer(" + g + ", ?, 0)", (y, v) -> y.layer(g, v, 0));
            s.refusedWith(noWhats, Scenes::rich, Expect.BEYOND, "layer(" + g + ", 0, ?)", (y, v) -> y.layer(g, 0, v));
        }
        s.refusedWith(Scenes.NO_GIFTS, Scenes::rich, Expect.BEYOND, "layer(?, 0, 0)", (y, v) -> y.layer(v, 0, 0));
        s.promise(7, "NONE: there is none such.");
        s.refusedWith(new int[] {2, 3, 11}, Scenes::rich, Expect.NONE, "layer(1, ?, 0)",
                (y, v) -> y.layer(Scenes.WRAPPED, v, 0));
        s.refusedWith(new int[] {0, 11}, Scenes::rich, Expect.NONE, "layer(4, ?, 1)",
                (y, v) -> y.layer(Scenes.BARE, v, 1));
    }

    private void rule() {
        s.promise(8, "LAW (what 0), PAPER (1) becomes v: what it was.");
        WrappedHands x = new WrappedHands();
        s.due("LAW 1", 9, x.rule(0, 1));
        s.due("LAW 20", 1, x.rule(0, 20));
        s.due("PAPER 0", 1, x.rule(1, 0));
        s.due("PAPER 9", 0, x.rule(1, 9));
        s.due("LAW then", 20, x.now(4));
        s.due("PAPER then", 9, x.now(5));
        s.promise(8, "BEYOND.");
        s.refusedWith(new int[] {Integer.MIN_VALUE, -1, 0, 21, Integer.MAX_VALUE}, Scenes::rich, Expect.BEYOND,
                "rule(0, ?)", (y, v) -> y.rule(0, v));
        s.refusedWith(new int[] {Integer.MIN_VALUE, -1, 10, Integer.MAX_VALUE}, Scenes::rich, Expect.BEYOND,
                "rule(1, ?)", (y, v) -> y.rule(1, v));
        s.refusedWith(new int[] {Integer.MIN_VALUE, -1, 2, Integer.MAX_VALUE}, Scenes::rich, Expect.BEYOND,
                "rule(?, 5)", (y, v) -> y.rule(v, 5));
    }

    private void send() {
        s.promise(9, "A GIFT in a HAND comes into another one's: in whose it was.");
        WrappedHands x = Scenes.rich();
        s.due("to 6", 2, x.send(Scenes.WRAPPED, 6));
        s.due("to 0", 6, x.send(Scenes.WRAPPED, 0));
        s.due("in whose", 0, x.giftOf(Scenes.WRAPPED, 2));
        s.due("no layer more", 2, x.giftOf(Scenes.WRAPPED, 4));
        s.due("no day more", 2, x.now(0));
        s.promise(9, "BEYOND.");
        s.refusedWith(Scenes.NO_GIFTS, Scenes::rich, Expect.BEYOND, "send(?, 0)", (y, v) -> y.send(v, 0));
        int[] gifts = {Scenes.KEPT, Scenes.WRAPPED, Scenes.WITHIN};
        for (int g : gifts) {
            s.refusedWith(Scenes.NO_PEOPLE, Scenes::rich, Expect.BEYOND, "send(" + g + ", ?)", (y, v) -> y.send(g, v));
        }
        s.promise(9, "STATE: it isn't in a HAND.");
        s.refusedWith(Scenes.NOT_IN_A_HAND, Scenes::rich, Expect.STATE, "send(?, 0)", (y, v) -> y.send(v, 0));
        s.refused(Scenes::rich, Expect.STATE, "send(0, 1) to who KEPT it", y -> y.send(Scenes.KEPT, 1));
    }

    private void open() {
        s.promise(10, "The outmost LAYER of a GIFT in a HAND is taken off: its NAME.");
        WrappedHands x = Scenes.rich();
        s.due("the outmost", 0, x.open(Scenes.WRAPPED));
        s.due("one is left", 1, x.giftOf(Scenes.WRAPPED, 4));
        s.due("the inmost", 3, x.open(Scenes.WRAPPED));
        s.due("none is left", 0, x.giftOf(Scenes.WRAPPED, 4));
        WrappedHands z = Scenes.rounds();
        z.days(10);
        s.due("the 12th", 6, z.open(Scenes.WRAPPED));
        s.due("11 are left", 11, z.giftOf(Scenes.WRAPPED, 4));
        s.promise(10, "BEYOND.");
        s.refusedWith(Scenes.NO_GIFTS, Scenes::rich, Expect.BEYOND, "open(?)", (y, v) -> y.open(v));
        s.promise(10, "STATE: it isn't in a HAND.");
        s.refusedWith(Scenes.NOT_IN_A_HAND, Scenes::rich, Expect.STATE, "open(?)", (y, v) -> y.open(v));
        s.refused(GiftEdges::keptWithLayers, Expect.STATE, "open(1) with layers", y -> y.open(Scenes.WRAPPED));
        s.promise(10, "NONE: there is none.");
        s.refusedWith(new int[] {Scenes.OUTER, Scenes.BARE}, Scenes::rich, Expect.NONE, "open(?)",
                (y, v) -> y.open(v));
        s.refused(GiftEdges::unwrapped, Expect.NONE, "open(1) a third time", y -> y.open(Scenes.WRAPPED));
    }

    private static WrappedHands keptWithLayers() {
        WrappedHands x = Scenes.rich();
        x.rule(0, 2);
        x.days(1);
        return x;
    }

    private static WrappedHands unwrapped() {
        WrappedHands x = Scenes.rich();
        x.open(Scenes.WRAPPED);
        x.open(Scenes.WRAPPED);
        return x;
    }

    private void skin() {
        s.promise(11, "A GIFT comes WITHIN another one: what this WEIGHS then.");
        WrappedHands x = Scenes.rich();
        s.due("BARE in OUTER", 21, x.skin(Scenes.BARE, Scenes.OUTER));
        s.due("it is WITHIN", 2, x.giftOf(Scenes.BARE, 3));
        s.due("in nobody's HAND", -1, x.giftOf(Scenes.BARE, 2));
        s.due("5 has one", 1 << Scenes.OUTER, x.of(5, 4));
        WrappedHands z = Scenes.rich();
        s.due("OUTER in BARE, with what it has", 21, z.skin(Scenes.OUTER, Scenes.BARE));
        s.due("5 has the other one", 1 << Scenes.BARE, z.of(5, 4));
        s.promise(11, "BEYOND: also one and the same.");
        s.refusedWith(new int[] {0, 1, 2, 3, 4}, Scenes::rich, Expect.BEYOND, "skin(?, ?)", (y, v) -> y.skin(v, v));
        s.refusedWith(Scenes.NO_GIFTS, Scenes::rich, Expect.BEYOND, "skin(?, 4)", (y, v) -> y.skin(v, Scenes.BARE));
        s.refusedWith(Scenes.NO_GIFTS, Scenes::rich, Expect.BEYOND, "skin(4, ?)", (y, v) -> y.skin(Scenes.BARE, v));
    }

    private void skinState() {
        s.promise(11, "STATE: they aren't both in one HAND, or one of them has LAYERS.");
        s.refused(GiftEdges::apart, Expect.STATE, "in two HANDS", y -> y.skin(Scenes.BARE, Scenes.OUTER));
        s.refused(GiftEdges::together, Expect.STATE, "the one has LAYERS", y -> y.skin(Scenes.WRAPPED, Scenes.BARE));
        s.refused(GiftEdges::together, Expect.STATE, "the other has", y -> y.skin(Scenes.BARE, Scenes.WRAPPED));
        int[] notInAHand = {Scenes.KEPT, Scenes.WITHIN};
        s.refusedWith(notInAHand, Scenes::rich, Expect.STATE, "skin(4, ?)", (y, v) -> y.skin(Scenes.BARE, v));
        s.refusedWith(notInAHand, Scenes::rich, Expect.STATE, "skin(?, 4)", (y, v) -> y.skin(v, Scenes.BARE));
        s.refused(GiftEdges::byTheKept, Expect.STATE, "BARE in the one KEPT by who has it",
                y -> y.skin(Scenes.BARE, Scenes.KEPT));
        s.refused(GiftEdges::byTheKept, Expect.STATE, "the one KEPT by who has BARE in it",
                y -> y.skin(Scenes.KEPT, Scenes.BARE));
        s.refused(Scenes::rich, Expect.STATE, "OUTER in what is WITHIN it", y -> y.skin(Scenes.OUTER, Scenes.WITHIN));
        s.refused(GiftEdges::twoWithin, Expect.STATE, "both WITHIN one", y -> y.skin(Scenes.BARE, Scenes.WITHIN));
    }

    private static WrappedHands apart() {
        WrappedHands x = Scenes.rich();
        x.send(Scenes.BARE, 4);
        return x;
    }

    /** WRAPPED, with one layer, and BARE are in one hand. */
    private static WrappedHands together() {
        WrappedHands x = Scenes.rich();
        x.open(Scenes.WRAPPED);
        x.send(Scenes.WRAPPED, 5);
        return x;
    }

    private static WrappedHands byTheKept() {
        WrappedHands x = Scenes.rich();
        x.send(Scenes.BARE, 1);
        return x;
    }

    private static WrappedHands twoWithin() {
        WrappedHands x = Scenes.rich();
        x.skin(Scenes.BARE, Scenes.OUTER);
        return x;
    }

    private void writes() {
        s.promise(12, "The NAME that one would WRITE on a GIFT, were it in one's HAND.");
        WrappedHands x = Scenes.rich();
        s.due("0 on another's", 3, x.writes(0, Scenes.WRAPPED));
        s.due("4 forges the outmost", 0, x.writes(4, Scenes.WRAPPED));
        s.due("0 on a KEPT one", 3, x.writes(0, Scenes.KEPT));
        s.due("6 on one WITHIN", 6, x.writes(6, Scenes.WITHIN));
        s.due("nothing is written", 2, x.now(3));
        s.promise(12, "BEYOND.");
        s.refusedWith(Scenes.NO_PEOPLE, Scenes::rich, Expect.BEYOND, "writes(?, 1)", (y, v) -> y.writes(v, 1));
        s.refusedWith(Scenes.NO_GIFTS, Scenes::rich, Expect.BEYOND, "writes(0, ?)", (y, v) -> y.writes(0, v));
        s.refused(Scenes::onePerson, Expect.BEYOND, "writes(0, 0) of no gifts", y -> y.writes(0, 0));
    }

    private void hands() {
        s.promise(13, "Whom one would HAND it ON TO (the number, there or not).");
        WrappedHands x = Scenes.rich();
        s.due("0, to who is there", 1, x.hands(0, Scenes.KEPT));
        s.due("6, to who isn't", Scenes.NOBODY, x.hands(6, Scenes.BARE));
        s.due("5, to one past", 6, x.hands(5, Scenes.WITHIN));
        s.due("6, back to who laid the outmost", 1, x.hands(6, Scenes.WRAPPED));
        s.due("it stays where it is", 5, x.giftOf(Scenes.BARE, 2));
        s.promise(13, "BEYOND.");
        s.refusedWith(Scenes.NO_PEOPLE, Scenes::rich, Expect.BEYOND, "hands(?, 1)", (y, v) -> y.hands(v, 1));
        s.refusedWith(Scenes.NO_GIFTS, Scenes::rich, Expect.BEYOND, "hands(0, ?)", (y, v) -> y.hands(0, v));
        s.refused(Scenes::onePerson, Expect.BEYOND, "hands(0, 0) of no gifts", y -> y.hands(0, 0));
    }

    private void keeps() {
        s.promise(14, "Whether one would KEEP it: 1, 0.");
        WrappedHands x = Scenes.rich();
        s.due("3, whose name is inmost", 1, x.keeps(3, Scenes.WRAPPED));
        s.due("0, who laid it", 0, x.keeps(0, Scenes.WRAPPED));
        s.due("1, the KEPT one", 1, x.keeps(1, Scenes.KEPT));
        s.due("3, by its greed", 1, x.keeps(3, Scenes.KEPT));
        s.due("2, the KEPT one", 0, x.keeps(2, Scenes.KEPT));
        s.due("1, what is WITHIN", 0, x.keeps(1, Scenes.WITHIN));
        s.due("it is KEPT by none", 0, x.giftOf(Scenes.WRAPPED, 3));
        s.promise(14, "BEYOND.");
        s.refusedWith(Scenes.NO_PEOPLE, Scenes::rich, Expect.BEYOND, "keeps(?, 1)", (y, v) -> y.keeps(v, 1));
        s.refusedWith(Scenes.NO_GIFTS, Scenes::rich, Expect.BEYOND, "keeps(0, ?)", (y, v) -> y.keeps(0, v));
        s.refused(Scenes::onePerson, Expect.BEYOND, "keeps(0, 0) of no gifts", y -> y.keeps(0, 0));
    }
}
