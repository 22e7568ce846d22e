/** Terms, item 2: days, fates, draws. */
final class DaysTermsEdges {
    private final Sentences s;

    DaysTermsEdges(Sentences s) {
        this.s = s;
    }

    void all() {
        keptOnADay();
        aLayerIsLaid();
        itGoesOnOrStays();
        eachGift();
        dayItself();
        fate();
        draws();
    }

    private void keptOnADay() {
        s.terms("2. A DAY of a GIFT that is in a HAND: if this one KEEPS it, it is KEPT.");
        WrappedHands x = Scenes.rich();
        x.change(5, 0, Coasts.KEEPING);
        x.change(5, 3, 13);
        s.due("OUTER WEIGHS 13, BARE 8", 1, x.days(1));
        s.due("OUTER is KEPT", 1, x.giftOf(Scenes.OUTER, 3));
        s.due("by whose it was", 5, x.giftOf(Scenes.OUTER, 2));
        s.due("without a layer", 0, x.giftOf(Scenes.OUTER, 4));
        s.due("BARE is not", 0, x.giftOf(Scenes.BARE, 3));
        s.due("what is WITHIN has no days", 2, x.giftOf(Scenes.WITHIN, 3));
        s.due("nor layers", 0, x.giftOf(Scenes.WITHIN, 4));
        s.due("what is KEPT has no days", 1, x.giftOf(Scenes.KEPT, 2));
        s.due("nor layers, either", 0, x.giftOf(Scenes.KEPT, 4));
        x.change(1, 0, Coasts.HAND);
        x.days(3);
        s.due("though who KEPT it would not now", 1, x.giftOf(Scenes.KEPT, 2));
        s.due("it is KEPT", 1, x.giftOf(Scenes.KEPT, 3));
        s.due("without layers", 0, x.giftOf(Scenes.KEPT, 4));
        s.due("AHEAD, too", 1, x.ahead(9, 0) & 1);
    }

    private void aLayerIsLaid() {
        s.terms("Else a LAYER is laid, outmost, by this one with the NAME that one WRITES (none, if it has 12),");
        WrappedHands x = Coasts.hands(2);
        x.change(0, 2, 7);
        x.change(1, 2, 6);
        x.rule(0, 20);
        x.gift(1, 0, 0);
        for (int layers = 1; layers <= 12; layers++) {
            x.days(1);
            s.due("layers", layers, x.giftOf(0, 4));
            s.due("NAME of the outmost", layers % 2 == 1 ? 7 : 6, x.layer(0, layers - 1, 0));
            s.due("HAND of the outmost", layers % 2 == 1 ? 0 : 1, x.layer(0, layers - 1, 1));
        }
        x.change(0, 2, 5);
        x.days(1);
        s.due("no 13th", 12, x.giftOf(0, 4));
        s.due("the 12th is as it was", 6, x.layer(0, 11, 0));
        s.due("but it goes on", 1, x.giftOf(0, 2));
        x.open(0);
        x.send(0, 0);
        x.days(1);
        s.due("with 11 there is one more", 5, x.layer(0, 11, 0));
    }

    private void itGoesOnOrStays() {
        s.terms("and it goes into the HAND that one HANDS it ON TO, if that one is there; else it stays.");
        for (int next = 0; next <= 7; next++) {
            WrappedHands x = Coasts.of(Coasts.HAND, Coasts.HAND, Coasts.HAND);
            x.change(0, 1, next);
            x.gift(1, 0, 0);
            x.days(1);
            s.due("NEXT " + next, next < 3 ? next : 0, x.giftOf(0, 2));
            s.due("a layer anyhow", 1, x.giftOf(0, 4));
            x.send(0, 0);
            x.open(0);
            x.gift(1, 0, 0);
            x.person(0);
            x.days(1);
            s.due("NEXT " + next + " of four", next < 4 ? next : 0, x.giftOf(1, 2));
        }
    }

    private void eachGift() {
        s.terms("A DAY is such a one of each GIFT in a HAND, by numbers.");
        WrappedHands x = Coasts.hands(8);
        for (int g = 0; g < 5; g++) {
            x.gift(1, 0, g);
        }
        x.skin(0, 1);
        x.days(1);
        for (int g = 0; g < 5; g++) {
            s.due("gift " + g, g + 1, x.giftOf(g, 2));
        }
        s.due("no gifts", 0, new WrappedHands().days(60));
        s.due("layers of all", 5, x.now(3));
    }

    private void dayItself() {
        s.terms("DAY is 0 at first (9999 at most).");
        s.due("at first", 0, new WrappedHands().now(0));
        WrappedHands x = Scenes.lastDays();
        s.due("9990", 9990, x.now(0));
        s.due("10 more", Expect.STATE, x.days(10));
        s.due("9 more, in which all are KEPT", 3, x.days(9));
        s.due("9999", 9999, x.now(0));
        s.due("1 more", Expect.STATE, x.days(1));
        s.due("9999 still", 9999, x.count(0));
    }

    private void fate() {
        s.terms("FATE of a GIFT: what becomes of it AHEAD, with all as it is, alone: by whom it is KEPT, or nobody"
                + " within 64 DAYS (it goes ROUND).");
        WrappedHands x = Scenes.latest();
        s.due("as late as can be", 7, x.fate(0));
        s.due("on that day", 20, x.when(0));
        s.due("AHEAD a day less", 0, x.ahead(19, 0));
        s.due("AHEAD so many", 1, x.ahead(20, 0));
        s.due("a ROUND", Expect.NONE, Scenes.rounds().fate(Scenes.WRAPPED));
        s.due("which stays one", 0, Scenes.rounds().ahead(60, 0) & 1 << Scenes.WRAPPED);
        s.due("the last DAY doesn't end it", 5, Scenes.lastDay().fate(Scenes.BARE));
    }

    private void draws() {
        s.terms("DRAWS: z is told (1 at first); each makes it z * 1103515245 + 12345 (an int), and gives z >>> 8.");
        s.due("at first", 1, new WrappedHands().count(6));
        int[] seeds = {1, 0, -1, Integer.MIN_VALUE, Integer.MAX_VALUE, 12345, -1000001};
        for (int seed : seeds) {
            WrappedHands x = Coasts.hands(7);
            x.gift(1, 0, 6);
            x.gift(1, 0, 6);
            x.gift(1, 0, 6);
            x.seed(seed);
            x.wind(1);
            int first = cut(seed * 1103515245L + 12345L);
            int second = cut(first * 1103515245L + 12345L);
            s.due("z of " + seed + " by two draws", second, x.count(6));
            int gift = (int) ((first & 0xffffffffL) / 256 % 3);
            int person = (int) ((second & 0xffffffffL) / 256 % 7);
            for (int g = 0; g < 3; g++) {
                s.due("gift " + g, g == gift ? person : 6, x.giftOf(g, 2));
            }
        }
    }

    private static int cut(long v) {
        return (int) (v & 0xffffffffL);
    }
}
