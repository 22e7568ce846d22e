/** Promises 31 to 36: who wrote a name, weights, draws. */
final class LayerEdges {
    private static final int[] NO_LAYERS = {Integer.MIN_VALUE, -1, 12, Integer.MAX_VALUE};

    private final Sentences s;

    LayerEdges(Sentences s) {
        this.s = s;
    }

    void all() {
        writers();
        ways();
        forged();
        guess();
        guessRefused();
        wind();
        windRefused();
        seed();
    }

    private void writers() {
        s.promise(31, "PEOPLE who can have laid LAYER i of a GIFT, as a set: those who, as they are, would WRITE its"
                + " NAME, if the GIFT had just the LAYERS within that.");
        WrappedHands x = Scenes.rich();
        s.due("3, inmost: 0 wishes it", 0b0000001, x.writers(Scenes.WRAPPED, 0));
        s.due("0: all who wish it and don't forge 3", 0b0001110, x.writers(Scenes.WRAPPED, 1));
        x.change(4, 2, 3);
        s.due("FORGING, by the WISH inmost", 0b0010001, x.writers(Scenes.WRAPPED, 0));
        x.change(0, 2, 1);
        x.change(4, 2, 0);
        s.due("nobody", 0, x.writers(Scenes.WRAPPED, 0));
        s.due("the outmost of 12, by all", 0xff, twelveByAll().writers(0, 11));
        s.promise(31, "BEYOND: i 0 to 11.");
        int[] gifts = {Scenes.WRAPPED, Scenes.BARE};
        for (int g : gifts) {
            s.refusedWith(NO_LAYERS, Scenes::rich, Expect.BEYOND, "writers(" + g + ", ?)", (y, v) -> y.writers(g, v));
        }
        s.refusedWith(NO_LAYERS, LayerEdges::twelveByAll, Expect.BEYOND, "writers(0, ?) of 12",
                (y, v) -> y.writers(0, v));
        s.refusedWith(Scenes.NO_GIFTS, Scenes::rich, Expect.BEYOND, "writers(?, 0)", (y, v) -> y.writers(v, 0));
        s.promise(31, "NONE: there is none such.");
        s.refusedWith(new int[] {2, 11}, Scenes::rich, Expect.NONE, "writers(1, ?)",
                (y, v) -> y.writers(Scenes.WRAPPED, v));
        s.refused(Scenes::rich, Expect.NONE, "writers(4, 0)", y -> y.writers(Scenes.BARE, 0));
    }

    /** Twelve layers by 0 and 1, each of whose names all eight would write. */
    private static WrappedHands twelveByAll() {
        WrappedHands x = Coasts.hands(8);
        x.rule(0, 20);
        x.change(1, 1, 0);
        for (int p = 0; p < 8; p++) {
            x.change(p, 2, 7);
        }
        x.gift(1, 0, 0);
        x.days(12);
        return x;
    }

    private void ways() {
        s.promise(32, "In how many ways all LAYERS of a GIFT can have been laid so: how many writers() of each,"
                + " multiplied (1 without LAYERS).");
        WrappedHands x = Scenes.rich();
        s.due("1 and 3", 3, x.ways(Scenes.WRAPPED));
        s.due("without LAYERS", 1, x.ways(Scenes.BARE));
        s.due("without LAYERS, KEPT", 1, x.ways(Scenes.KEPT));
        s.due("more than an int holds", 68719476736L, twelveByAll().ways(0));
        x.change(0, 2, 1);
        s.due("nobody and 3", 0, x.ways(Scenes.WRAPPED));
        s.promise(32, "BEYOND.");
        s.refusedWith(Scenes.NO_GIFTS, Scenes::rich, Expect.BEYOND, "ways(?)", (y, v) -> y.ways(v));
        s.refused(Scenes::onePerson, Expect.BEYOND, "ways(0) of no gifts", y -> y.ways(0));
    }

    private void forged() {
        s.promise(33, "LAYERS of a GIFT whose HAND isn't among their writers(), as a set (bit i).");
        WrappedHands x = Scenes.rich();
        s.due("none", 0, x.forged(Scenes.WRAPPED));
        s.due("without LAYERS", 0, x.forged(Scenes.BARE));
        x.change(0, 2, 0);
        s.due("the inmost", 0b01, x.forged(Scenes.WRAPPED));
        x.change(1, 0, Coasts.CHILD);
        s.due("both", 0b11, x.forged(Scenes.WRAPPED));
        x.change(0, 2, 3);
        s.due("the outmost", 0b10, x.forged(Scenes.WRAPPED));
        WrappedHands z = twelveByAll();
        z.change(0, 0, Coasts.IMP);
        z.change(1, 2, 6);
        s.due("all twelve", 0xfff, z.forged(0));
        z.change(1, 2, 7);
        s.due("0's alone", 0b010101010101, z.forged(0));
        z.change(0, 0, Coasts.HAND);
        z.change(1, 0, Coasts.CHILD);
        s.due("1's alone, up to bit 11", 0b101010101010, z.forged(0));
        s.promise(33, "BEYOND.");
        s.refusedWith(Scenes.NO_GIFTS, Scenes::rich, Expect.BEYOND, "forged(?)", (y, v) -> y.forged(v));
        s.refused(Scenes::onePerson, Expect.BEYOND, "forged(0) of no gifts", y -> y.forged(0));
    }

    private void guess() {
        s.promise(34, "The fewest LAYERS (0 to 12) with which a GIFT, with what is WITHIN it, would WEIGH w (0 to"
                + " 999).");
        WrappedHands x = Scenes.rich();
        for (int layers = 0; layers <= 12; layers++) {
            s.due("BARE with " + layers, layers, x.guess(Scenes.BARE, 8 + 2 * layers));
            s.due("OUTER with " + layers, layers, x.guess(Scenes.OUTER, 13 + 2 * layers));
            s.due("WRAPPED with " + layers, layers, x.guess(Scenes.WRAPPED, 5 + 2 * layers));
            s.due("KEPT with " + layers, layers, x.guess(Scenes.KEPT, 50 + 2 * layers));
        }
        x.rule(1, 0);
        s.due("the fewest of all, PAPER of 0", 0, x.guess(Scenes.BARE, 8));
        x.rule(1, 9);
        s.due("the most, PAPER of 9", 12, x.guess(Scenes.KEPT, 158));
        s.due("the least of 999 that is asked", Expect.NONE, x.guess(Scenes.KEPT, 0));
        s.due("the most of 999", Expect.NONE, x.guess(Scenes.KEPT, 999));
    }

    private void guessRefused() {
        s.promise(34, "BEYOND.");
        int[] weights = {Integer.MIN_VALUE, -1, 1000, Integer.MAX_VALUE};
        s.refusedWith(weights, Scenes::rich, Expect.BEYOND, "guess(4, ?)", (x, v) -> x.guess(Scenes.BARE, v));
        s.refusedWith(Scenes.NO_GIFTS, Scenes::rich, Expect.BEYOND, "guess(?, 8)", (x, v) -> x.guess(v, 8));
        s.promise(34, "NONE.");
        int[] never = {0, 7, 9, 31, 33, 34, 999};
        s.refusedWith(never, Scenes::rich, Expect.NONE, "guess(4, ?)", (x, v) -> x.guess(Scenes.BARE, v));
        s.refused(Scenes::rich, Expect.NONE, "guess(3, 7) without what is WITHIN",
                x -> x.guess(Scenes.OUTER, 7));
        s.refused(LayerEdges::withoutPaper, Expect.NONE, "guess(4, 9) of no PAPER", x -> x.guess(Scenes.BARE, 9));
    }

    private static WrappedHands withoutPaper() {
        WrappedHands x = Scenes.rich();
        x.rule(1, 0);
        return x;
    }

    private void wind() {
        s.promise(35, "n times (1 to 12) by draws: the GIFT that is the rest of a draw by how many there are, if it is"
                + " in a HAND, comes into that of the one who is the rest of the next draw (made anyhow) by how many"
                + " there are: LAYERS of all then.");
        int[] some = {1, 2, 11, 12};
        for (int n : some) {
            WrappedHands x = Scenes.rich();
            int[] holders = {1, 2, -1, 5, 5};
            int z = 12345;
            for (int i = 0; i < n; i++) {
                z = next(z);
                int gift = (z >>> 8) % 5;
                z = next(z);
                if (gift != Scenes.KEPT && gift != Scenes.WITHIN) {
                    holders[gift] = (z >>> 8) % 7;
                }
            }
            s.due("wind(" + n + ")", 2, x.wind(n));
            s.due("z", z, x.count(6));
            for (int g = 0; g < 5; g++) {
                s.due("gift " + g, holders[g], x.giftOf(g, 2));
            }
            s.due("KEPT and WITHIN stay so", 0b11010, x.now(1));
            s.due("no day has gone", 2, x.now(0));
        }
        windOfOne();
    }

    /** The fewest of whom and of what a draw can be the rest. */
    private void windOfOne() {
        WrappedHands x = Scenes.onePerson();
        x.gift(1, 0, 0);
        s.due("one gift, one person", 0, x.wind(12));
        s.due("it stays", 0, x.giftOf(0, 2));
        s.due("24 draws are made", drawn(1, 24), x.count(6));
        WrappedHands y = Coasts.hands(3);
        y.gift(1, 0, 0);
        s.due("one gift, three people", 0, y.wind(1));
        s.due("whose it is", (drawn(1, 2) >>> 8) % 3, y.giftOf(0, 2));
        s.due("not 0's any more", 2, y.giftOf(0, 2));
    }

    private static int drawn(int z, int times) {
        return times == 0 ? z : drawn(next(z), times - 1);
    }

    private static int next(int z) {
        return z * 1103515245 + 12345;
    }

    private void windRefused() {
        s.promise(35, "BEYOND.");
        int[] never = {Integer.MIN_VALUE, -1, 0, 13, Integer.MAX_VALUE};
        s.refusedWith(never, Scenes::rich, Expect.BEYOND, "wind(?)", (x, v) -> x.wind(v));
        s.refusedWith(never, Scenes::empty, Expect.BEYOND, "wind(?) of nothing", (x, v) -> x.wind(v));
        s.promise(35, "STATE: there are no GIFTS, or nobody.");
        s.refusedWith(new int[] {1, 12}, Scenes::empty, Expect.STATE, "wind(?) of nothing", (x, v) -> x.wind(v));
        s.refusedWith(new int[] {1, 12}, Scenes::onePerson, Expect.STATE, "wind(?) of no gifts",
                (x, v) -> x.wind(v));
    }

    private void seed() {
        s.promise(36, "z becomes v: what it was.");
        WrappedHands x = Scenes.rich();
        s.due("seed(least)", 12345, x.seed(Integer.MIN_VALUE));
        s.due("seed(most)", Integer.MIN_VALUE, x.seed(Integer.MAX_VALUE));
        s.due("seed(-1)", Integer.MAX_VALUE, x.seed(-1));
        s.due("seed(0)", -1, x.seed(0));
        s.due("seed(0) again", 0, x.seed(0));
        s.due("z", 0, x.count(6));
    }
}
