/** Promises 21 to 30: whom to send a gift to, and what would change its fate. */
final class SendingEdges {
    private final Sentences s;

    SendingEdges(Sentences s) {
        this.s = s;
    }

    void all() {
        senders();
        fates();
        wish();
        wishRefused();
        turn();
        turnRefused();
        ends();
        endsRefused();
        law();
        rounds();
        kindFor();
        hopes();
        missed();
    }

    private void senders() {
        s.promise(21, "HANDS into which a GIFT, sent there now, has one as its FATE, as a set.");
        WrappedHands x = Scenes.rich();
        int[] due = {0, 0, 0, 0, 0b0001101, 0b0100000, 0b1010010};
        for (int p = 0; p <= 6; p++) {
            s.due("senders(4, " + p + ")", due[p], x.senders(Scenes.BARE, p));
        }
        s.due("in ROUNDS, to 4", 0, Scenes.rounds().senders(Scenes.BARE, 4));
        s.due("all eight", 0xff, eightFor(7).senders(0, 7));
        s.due("it is where it was", 5, x.giftOf(Scenes.BARE, 2));
        s.promise(21, "BEYOND.");
        s.refusedWith(Scenes.NO_GIFTS, Scenes::rich, Expect.BEYOND, "senders(?, 0)", (y, v) -> y.senders(v, 0));
        s.refusedWith(Scenes.NO_PEOPLE, Scenes::rich, Expect.BEYOND, "senders(4, ?)",
                (y, v) -> y.senders(Scenes.BARE, v));
        s.refusedWith(Scenes.NO_PEOPLE, Scenes::rich, Expect.BEYOND, "senders(0, ?)",
                (y, v) -> y.senders(Scenes.KEPT, v));
        s.promise(21, "STATE: it isn't in a HAND.");
        s.refusedWith(Scenes.NOT_IN_A_HAND, Scenes::rich, Expect.STATE, "senders(?, 1)", (y, v) -> y.senders(v, 1));
    }

    /** Eight in a ring, a gift with 0, and one who keeps all that comes by. */
    private static WrappedHands eightFor(int keeper) {
        WrappedHands x = Coasts.hands(8);
        for (int p = 0; p < 8; p++) {
            x.change(p, 2, keeper);
        }
        x.change(keeper, 0, Coasts.KEEPING);
        x.change(keeper, 3, 0);
        x.gift(1, 0, 0);
        return x;
    }

    private void fates() {
        s.promise(22, "FATES that a GIFT can have by where it is sent now, as a set (ROUNDS don't count).");
        WrappedHands x = Scenes.rich();
        s.due("BARE", 0b1110000, x.fates(Scenes.BARE));
        s.due("ROUNDS by 0 to 4", 0b1100000, Scenes.rounds().fates(Scenes.BARE));
        s.due("ROUNDS alone", 0, alwaysRound().fates(0));
        s.due("each one's own", 0xff, eachForOneself().fates(0));
        s.due("the last one", 0b10000000, eightFor(7).fates(0));
        s.due("it is where it was", 5, x.giftOf(Scenes.BARE, 2));
        s.promise(22, "BEYOND.");
        s.refusedWith(Scenes.NO_GIFTS, Scenes::rich, Expect.BEYOND, "fates(?)", (y, v) -> y.fates(v));
        s.promise(22, "STATE.");
        s.refusedWith(Scenes.NOT_IN_A_HAND, Scenes::rich, Expect.STATE, "fates(?)", (y, v) -> y.fates(v));
    }

    /** One who writes of another who isn't there, under a law that no gift comes to. */
    private static WrappedHands alwaysRound() {
        WrappedHands x = Scenes.onePerson();
        x.change(0, 2, 7);
        x.rule(0, 13);
        x.gift(1, 0, 0);
        return x;
    }

    /** Eight who write themselves and hand on to themselves. */
    private static WrappedHands eachForOneself() {
        WrappedHands x = Coasts.hands(8);
        for (int p = 0; p < 8; p++) {
            x.change(p, 1, p);
            x.change(p, 2, p);
        }
        x.gift(1, 0, 3);
        return x;
    }

    private void wish() {
        s.promise(23, "Of who has it: the WISH (0 to 7) with which its FATE is one; of several the least.");
        WrappedHands x = Coasts.hands(8);
        x.change(0, 2, 3);
        x.gift(1, 0, 0);
        for (int p = 0; p < 8; p++) {
            s.due("wish(0, " + p + ")", p, x.wish(0, p));
        }
        s.due("the WISH is as it was", 3, x.of(0, 2));
        WrappedHands z = Coasts.hands(3);
        z.gift(1, 0, 0);
        z.rule(0, 10);
        s.due("of 1, and 3 to 7 by LAW", 1, z.wish(0, 1));
        z.rule(0, 11);
        s.due("of 2, and 3 to 7 by LAW", 2, z.wish(0, 2));
        z.rule(0, 12);
        s.due("of 0, and 3 to 7 by LAW", 0, z.wish(0, 0));
        s.due("of a CHILD's all", 0, Scenes.rich().wish(Scenes.BARE, 5));
    }

    private void wishRefused() {
        s.promise(23, "BEYOND.");
        s.refusedWith(Scenes.NO_GIFTS, Scenes::rich, Expect.BEYOND, "wish(?, 0)", (y, v) -> y.wish(v, 0));
        s.refusedWith(Scenes.NO_PEOPLE, Scenes::rich, Expect.BEYOND, "wish(4, ?)", (y, v) -> y.wish(Scenes.BARE, v));
        s.refusedWith(Scenes.NO_PEOPLE, Scenes::rich, Expect.BEYOND, "wish(0, ?)", (y, v) -> y.wish(Scenes.KEPT, v));
        s.promise(23, "STATE: it isn't in a HAND.");
        s.refusedWith(Scenes.NOT_IN_A_HAND, Scenes::rich, Expect.STATE, "wish(?, 1)", (y, v) -> y.wish(v, 1));
        s.promise(23, "NONE.");
        s.refusedWith(new int[] {0, 4, 6}, Scenes::rich, Expect.NONE, "wish(4, ?)",
                (y, v) -> y.wish(Scenes.BARE, v));
        s.refused(SendingEdges::byOneself, Expect.NONE, "wish(0, 1) of who hands on to oneself", y -> y.wish(0, 1));
    }

    private static WrappedHands byOneself() {
        WrappedHands x = alwaysRound();
        x.person(Coasts.HAND);
        x.change(0, 1, 0);
        return x;
    }

    private void turn() {
        s.promise(24, "The NEXT (0 to 7) of one with which the FATE of a GIFT is that of PEOPLE told last; of several"
                + " the least.");
        WrappedHands x = Coasts.hands(8);
        x.gift(1, 0, 0);
        for (int keeper = 5; keeper <= 7; keeper += 2) {
            x.change(keeper, 0, Coasts.KEEPING);
            x.change(keeper, 3, 0);
        }
        x.change(1, 1, 0);
        x.change(6, 1, 0);
        s.due("0 or 1", 0, x.turn(0, 0, 0));
        s.due("2 to 5", 2, x.turn(0, 0, 5));
        s.due("the last number", 7, x.turn(0, 0, 7));
        s.due("another one's", 0, x.turn(1, 0, 0));
        s.due("another one's to 5", 2, x.turn(1, 0, 5));
        s.due("another one's to 7", 7, x.turn(1, 0, 7));
        s.due("of one not on the way", 0, x.turn(6, 0, 0));
        s.due("NEXT is as it was", 1, x.of(0, 1));
        s.due("another one's, too", 0, x.of(1, 1));
    }

    private void turnRefused() {
        s.promise(24, "BEYOND.");
        s.refusedWith(Scenes.NO_GIFTS, Scenes::rich, Expect.BEYOND, "turn(0, ?, 0)", (y, v) -> y.turn(0, v, 0));
        int[] gifts = {Scenes.KEPT, Scenes.BARE};
        for (int g : gifts) {
            s.refusedWith(Scenes.NO_PEOPLE, Scenes::rich, Expect.BEYOND, "turn(?, " + g + ", 0)",
                    (y, v) -> y.turn(v, g, 0));
            s.refusedWith(Scenes.NO_PEOPLE, Scenes::rich, Expect.BEYOND, "turn(0, " + g + ", ?)",
                    (y, v) -> y.turn(0, g, v));
        }
        s.promise(24, "STATE: it isn't in a HAND.");
        s.refusedWith(Scenes.NOT_IN_A_HAND, Scenes::rich, Expect.STATE, "turn(0, ?, 1)", (y, v) -> y.turn(0, v, 1));
        s.promise(24, "NONE.");
        s.refused(Scenes::rounds, Expect.NONE, "turn(3, 1, 6)", y -> y.turn(3, Scenes.WRAPPED, 6));
        s.refused(Scenes::rich, Expect.NONE, "turn(0, 4, 0) of one not on the way", y -> y.turn(0, Scenes.BARE, 0));
    }

    private void ends() {
        s.promise(25, "What can end the ROUND of a GIFT: 10 times one of PEOPLE, and the NEXT (0 to 7) of that one,"
                + " with which it has a FATE; the first so.");
        WrappedHands x = Scenes.rounds();
        s.due("3, whose name is inmost, turned to 3", 33, x.ends(Scenes.WRAPPED));
        s.due("NEXT is as it was", 4, x.of(3, 1));
        s.due("7 turned to 6", 76, turnedOnlyBy(7).ends(0));
        s.due("0 turned to 6", 6, turnedOnlyBy(0).ends(0));
        WrappedHands y = Coasts.of(Coasts.KEEPING, Coasts.HAND);
        y.rule(0, 20);
        y.change(0, 3, 0);
        y.change(1, 1, 1);
        y.change(1, 2, 7);
        y.gift(1, 0, 1);
        s.due("1 turned to 0", 10, y.ends(0));
        y.change(0, 0, Coasts.HAND);
        y.change(0, 1, 1);
        y.change(1, 2, 0);
        y.send(0, 1);
        s.due("1 turned to 0, the name inmost", 10, y.ends(0));
        y.send(0, 0);
        y.change(0, 2, 0);
        y.change(1, 1, 1);
        s.due("0 turned to 0", 0, y.ends(0));
        WrappedHands z = turnedOnlyBy(0);
        z.change(6, 1, 7);
        z.change(7, 0, Coasts.KEEPING);
        z.change(7, 3, 0);
        s.due("the first of 06 and 07", 6, z.ends(0));
        z.change(6, 0, Coasts.HAND);
        z.change(6, 1, 6);
        z.change(0, 2, 5);
        z.change(5, 1, 6);
        s.due("the first of 05 and 07", 5, z.ends(0));
    }

    /** Eight who hand on to themselves; 6 keeps all; the gift is with one, who wishes it for 6. */
    private static WrappedHands turnedOnlyBy(int person) {
        WrappedHands x = Coasts.hands(8);
        x.rule(0, 20);
        for (int p = 0; p < 8; p++) {
            x.change(p, 1, p);
            x.change(p, 2, 6);
        }
        x.change(6, 0, Coasts.KEEPING);
        x.change(6, 3, 0);
        x.gift(1, 0, person);
        return x;
    }

    private void endsRefused() {
        s.promise(25, "BEYOND.");
        s.refusedWith(Scenes.NO_GIFTS, Scenes::rounds, Expect.BEYOND, "ends(?)", (y, v) -> y.ends(v));
        s.promise(25, "STATE: it isn't in a HAND, or goes no ROUND.");
        s.refusedWith(Scenes.NOT_IN_A_HAND, Scenes::rounds, Expect.STATE, "ends(?)", (y, v) -> y.ends(v));
        s.refused(Scenes::rounds, Expect.STATE, "ends(4), which has a FATE", y -> y.ends(Scenes.BARE));
        s.refused(Scenes::latest, Expect.STATE, "ends(0), which has a late FATE", y -> y.ends(0));
        s.promise(25, "NONE.");
        s.refused(SendingEdges::alwaysRound, Expect.NONE, "ends(0)", y -> y.ends(0));
    }

    private void law() {
        s.promise(26, "The least LAW (1 to 20) with which the FATE of a GIFT is another one than now (or is one, if it"
                + " goes ROUND now, or is none).");
        s.due("2 has two LAYERS already", 1, Scenes.rich().law(Scenes.WRAPPED));
        s.due("is one", 1, Scenes.rounds().law(Scenes.WRAPPED));
        WrappedHands x = alwaysRound();
        s.due("one alone, by any up to 12", 1, x.law(0));
        x.rule(0, 12);
        s.due("is none", 13, x.law(0));
        s.due("the LAW is as it was", 12, x.now(4));
        WrappedHands z = Coasts.hands(2);
        z.change(0, 2, 7);
        z.change(1, 2, 7);
        z.gift(1, 0, 0);
        s.due("1 by 9, 1 by 1, 0 by 2", 2, z.law(0));
        s.promise(26, "BEYOND.");
        s.refusedWith(Scenes.NO_GIFTS, Scenes::rich, Expect.BEYOND, "law(?)", (y, v) -> y.law(v));
        s.promise(26, "STATE: it isn't in a HAND.");
        s.refusedWith(Scenes.NOT_IN_A_HAND, Scenes::rich, Expect.STATE, "law(?)", (y, v) -> y.law(v));
        s.promise(26, "NONE.");
        s.refused(Scenes::rich, Expect.NONE, "law(4), 5's anyhow", y -> y.law(Scenes.BARE));
        s.refused(Scenes::rounds, Expect.NONE, "law(4), 5's by its name alone", y -> y.law(Scenes.BARE));
    }

    private void rounds() {
        s.promise(27, "How many GIFTS in HANDS go ROUND.");
        s.due("nobody", 0, new WrappedHands().rounds());
        s.due("none", 0, Scenes.rich().rounds());
        s.due("WRAPPED", 1, Scenes.rounds().rounds());
        WrappedHands x = alwaysRound();
        for (int g = 1; g < 5; g++) {
            x.gift(1, 0, 0);
            s.due("all", g + 1, x.rounds());
        }
        x.rule(0, 12);
        s.due("none by a LAW of 12", 0, x.rounds());
    }

    private void kindFor() {
        s.promise(28, "The KIND as which one gets (is FATE of) most WORTH of the GIFTS in HANDS.");
        WrappedHands x = Coasts.of(Coasts.HAND, Coasts.HAND, Coasts.FORGING, Coasts.IN_LAW);
        int[] next = {1, 3, 0, 0};
        int[] wish = {1, 2, 7, 0};
        for (int p = 0; p < 4; p++) {
            x.change(p, 1, next[p]);
            x.change(p, 2, wish[p]);
            x.change(p, 3, 99);
        }
        x.rule(0, 20);
        x.gift(1, 10, 0);
        // As CHILD or IMP 0 gets this one, when all twelve layers are laid.
        s.due("the least of CHILD and IMP", Coasts.CHILD, x.kindFor(0));
        x.gift(1, 10, 3);
        // This one comes with one layer: a CHILD hands it on, to the round; an IMP back to 3, and gets it.
        s.due("both as an IMP", Coasts.IMP, x.kindFor(0));
        for (int kind = 6; kind >= 0; kind--) {
            x.change(0, 0, kind);
            s.due("as one of kind " + kind + " now", Coasts.IMP, x.kindFor(0));
            s.due("the KIND is as it was", kind, x.of(0, 0));
        }
        s.due("without GIFTS", 0, Scenes.onePerson().kindFor(0));
        WrappedHands z = Scenes.rich();
        z.change(1, 3, 0);
        s.due("a KEPT one's WORTH is no matter", 0, z.kindFor(1));
        s.promise(28, "BEYOND.");
        s.refusedWith(Scenes.NO_PEOPLE, Scenes::rich, Expect.BEYOND, "kindFor(?)", (y, v) -> y.kindFor(v));
        s.refused(Scenes::empty, Expect.BEYOND, "kindFor(0) of nobody", y -> y.kindFor(0));
    }

    private void hopes() {
        s.promise(29, "WORTH of the GIFTS in HANDS of which one is FATE.");
        WrappedHands x = Scenes.rich();
        int[] due = {0, 0, 0, 0, 10, 70, 0};
        for (int p = 0; p <= 6; p++) {
            s.due("hopes(" + p + ")", due[p], x.hopes(p));
        }
        s.due("ROUNDS are nobody's", 0, Scenes.rounds().hopes(4));
        WrappedHands z = Coasts.of(Coasts.KEEPING);
        z.change(0, 3, 0);
        for (int g = 0; g < 5; g++) {
            z.gift(1, 99, 0);
        }
        s.due("all there can be", 495, z.hopes(0));
        s.promise(29, "BEYOND.");
        s.refusedWith(Scenes.NO_PEOPLE, Scenes::rich, Expect.BEYOND, "hopes(?)", (y, v) -> y.hopes(v));
        s.refused(Scenes::empty, Expect.BEYOND, "hopes(0) of nobody", y -> y.hopes(0));
    }

    private void missed() {
        s.promise(30, "The one who, not being there for others to HAND ON TO (what is in that one's own HAND goes on"
                + " as it does), would change the FATES of most GIFTS in HANDS.");
        WrappedHands x = Scenes.rich();
        s.due("5, for OUTER and BARE, though 5 has them", 5, x.missed());
        x.send(Scenes.OUTER, 0);
        x.send(Scenes.BARE, 0);
        x.send(Scenes.WRAPPED, 0);
        s.due("the least of those by whom all go", 1, x.missed());
        s.due("one alone", 0, alwaysRound().missed());
        s.due("no gifts", 0, Coasts.hands(8).missed());
        WrappedHands z = Coasts.hands(8);
        z.change(6, 2, 7);
        z.gift(1, 0, 6);
        s.due("the last one", 7, z.missed());
        s.due("FATES are as they were", 7, z.fate(0));
        WrappedHands blind = Coasts.of(Coasts.BLIND, Coasts.HAND, Coasts.HAND);
        blind.gift(1, 0, 0);
        s.due("NEXT of who is BLIND", 1, blind.missed());
        s.promise(30, "NONE: there are no PEOPLE.");
        s.refused(Scenes::empty, Expect.NONE, "missed()", WrappedHands::missed);
    }
}
