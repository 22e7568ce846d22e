/** Promises 15 to 20: days, and what they bring. */
final class DayEdges {
    private static final int[] NO_DAYS = {Integer.MIN_VALUE, -1, 61, Integer.MAX_VALUE};

    private final Sentences s;

    DayEdges(Sentences s) {
        this.s = s;
    }

    void all() {
        days();
        daysRefused();
        now();
        ahead();
        aheadRefused();
        fate();
        when();
        seen();
    }

    private void days() {
        s.promise(15, "n DAYS go (1 to 60): how many GIFTS are KEPT in them.");
        WrappedHands x = Scenes.rich();
        s.due("days(1): none but who was KEPT before", 0, x.days(1));
        s.due("DAY", 3, x.now(0));
        s.due("days(60)", 3, x.days(60));
        s.due("DAY then", 63, x.now(0));
        s.due("days(60) more", 0, x.days(60));
        WrappedHands z = Scenes.rich();
        s.due("days(2)", 0, z.days(2));
        s.due("the 3rd", 2, z.days(1));
        s.due("up to the 7th", 0, z.days(4));
        s.due("the 8th", 1, z.days(1));
        s.due("all five in one go", 5, fiveAtOnce().days(1));
    }

    private static WrappedHands fiveAtOnce() {
        WrappedHands x = Coasts.of(Coasts.KEEPING);
        for (int g = 0; g < 5; g++) {
            x.gift(50, 0, 0);
        }
        return x;
    }

    private void daysRefused() {
        s.promise(15, "BEYOND.");
        s.refusedWith(NO_DAYS, Scenes::rich, Expect.BEYOND, "days(?)", (x, v) -> x.days(v));
        s.refusedWith(NO_DAYS, Scenes::lastDay, Expect.BEYOND, "days(?) on DAY 9999", (x, v) -> x.days(v));
        s.refused(Scenes::rich, Expect.BEYOND, "days(0)", x -> x.days(0));
        s.refused(Scenes::lastDay, Expect.BEYOND, "days(0) on DAY 9999", x -> x.days(0));
        s.promise(15, "STATE: DAY would be above 9999.");
        s.refusedWith(new int[] {10, 11, 60}, Scenes::lastDays, Expect.STATE, "days(?) on DAY 9990",
                (x, v) -> x.days(v));
        s.refusedWith(new int[] {1, 60}, Scenes::lastDay, Expect.STATE, "days(?) on DAY 9999", (x, v) -> x.days(v));
        WrappedHands x = Scenes.lastDays();
        s.due("days(9) on DAY 9990", 3, x.days(9));
        s.due("DAY", 9999, x.now(0));
    }

    private void now() {
        s.promise(16, "What 0 DAY, 1 GIFTS in HANDS, as a set, 2 KEPT ones, as a set, 3 LAYERS of all, 4 LAW,"
                + " 5 PAPER, 6 WORTH of KEPT ones.");
        WrappedHands x = Scenes.rich();
        int[] due = {2, 0b11010, 0b00001, 2, 9, 2, 9};
        for (int what = 0; what <= 6; what++) {
            s.due("now(" + what + ")", due[what], x.now(what));
        }
        x.days(3);
        int[] then = {5, 0b00010, 0b11001, 9, 9, 2, 79};
        for (int what = 0; what <= 6; what++) {
            s.due("three days on: now(" + what + ")", then[what], x.now(what));
        }
        s.promise(16, "BEYOND.");
        s.refusedWith(new int[] {Integer.MIN_VALUE, -1, 7, Integer.MAX_VALUE}, Scenes::rich, Expect.BEYOND,
                "now(?)", (y, v) -> y.now(v));
    }

    private void ahead() {
        s.promise(17, "AHEAD n DAYS (0 to 60): what 0 GIFTS KEPT then, as a set, 1 LAYERS of all then, 2 + GIFT in"
                + " whose HAND, or by whom KEPT, it is then (-1: WITHIN).");
        int[] days = {0, 1, 2, 3, 7, 8, 60};
        int[][] due = {
            {0b00001, 2, 1, 2, -1, 5, 5}, {0b00001, 5, 1, 4, -1, 6, 6}, {0b00001, 8, 1, 6, -1, 5, 5},
            {0b11001, 9, 1, 4, -1, 5, 5}, {0b11001, 13, 1, 4, -1, 5, 5}, {0b11011, 13, 1, 4, -1, 5, 5},
            {0b11011, 13, 1, 4, -1, 5, 5}};
        WrappedHands x = Scenes.rich();
        for (int i = 0; i < days.length; i++) {
            for (int what = 0; what <= 6; what++) {
                s.due("ahead(" + days[i] + ", " + what + ")", due[i][what], x.ahead(days[i], what));
            }
        }
        s.due("DAY is as it was", 2, x.now(0));
        s.due("so are LAYERS", 2, x.now(3));
        for (int n = 0; n <= 20; n++) {
            s.due("LAYERS of gift 0 in " + n + " DAYS", Math.min(n, 12), Scenes.latest().ahead(n, 1));
            s.due("whether it is KEPT in " + n + " DAYS", n / 20, Scenes.latest().ahead(n, 0));
        }
    }

    private void aheadRefused() {
        s.promise(17, "BEYOND: no such GIFT, too.");
        int[] noWhats = {Integer.MIN_VALUE, -1, 2 + Scenes.NO_GIFT, Integer.MAX_VALUE};
        s.refusedWith(NO_DAYS, Scenes::rich, Expect.BEYOND, "ahead(?, 0)", (x, v) -> x.ahead(v, 0));
        s.refusedWith(noWhats, Scenes::rich, Expect.BEYOND, "ahead(0, ?)", (x, v) -> x.ahead(0, v));
        s.refusedWith(noWhats, Scenes::lastDay, Expect.BEYOND, "ahead(1, ?) on DAY 9999", (x, v) -> x.ahead(1, v));
        s.refused(Scenes::onePerson, Expect.BEYOND, "ahead(1, 2) of no gifts", x -> x.ahead(1, 2));
        s.promise(17, "STATE: DAY would be above 9999.");
        int[] whats = {0, 1, 2, 6};
        s.refusedWith(whats, Scenes::lastDays, Expect.STATE, "ahead(10, ?) on DAY 9990", (x, v) -> x.ahead(10, v));
        s.refusedWith(new int[] {1, 60}, Scenes::lastDay, Expect.STATE, "ahead(?, 0) on DAY 9999",
                (x, v) -> x.ahead(v, 0));
        s.due("ahead(9, 0) on DAY 9990", 0b11011, Scenes.lastDays().ahead(9, 0));
        s.due("ahead(0, 0) on DAY 9999", 0b00001, Scenes.lastDay().ahead(0, 0));
    }

    private void fate() {
        s.promise(18, "FATE of a GIFT: by whom.");
        WrappedHands x = Scenes.rich();
        s.due("fate of WRAPPED", 4, x.fate(Scenes.WRAPPED));
        s.due("fate of OUTER", 5, x.fate(Scenes.OUTER));
        s.due("fate of BARE", 5, x.fate(Scenes.BARE));
        s.due("LAYERS are as they were", 2, x.now(3));
        s.promise(18, "BEYOND.");
        s.refusedWith(Scenes.NO_GIFTS, Scenes::rich, Expect.BEYOND, "fate(?)", (y, v) -> y.fate(v));
        s.promise(18, "STATE: it isn't in a HAND.");
        s.refusedWith(Scenes.NOT_IN_A_HAND, Scenes::rich, Expect.STATE, "fate(?)", (y, v) -> y.fate(v));
        s.promise(18, "NONE: it goes ROUND.");
        s.refused(Scenes::rounds, Expect.NONE, "fate(1)", y -> y.fate(Scenes.WRAPPED));
    }

    private void when() {
        s.promise(19, "Behind how many DAYS it is KEPT so (1 to 64).");
        WrappedHands x = Scenes.rich();
        s.due("WRAPPED", 8, x.when(Scenes.WRAPPED));
        s.due("BARE", 3, x.when(Scenes.BARE));
        s.due("as soon as can be", 1, fiveAtOnce().when(4));
        s.due("as late as can be", 20, Scenes.latest().when(0));
        s.promise(19, "BEYOND.");
        s.refusedWith(Scenes.NO_GIFTS, Scenes::rich, Expect.BEYOND, "when(?)", (y, v) -> y.when(v));
        s.promise(19, "STATE.");
        s.refusedWith(Scenes.NOT_IN_A_HAND, Scenes::rich, Expect.STATE, "when(?)", (y, v) -> y.when(v));
        s.promise(19, "NONE.");
        s.refused(Scenes::rounds, Expect.NONE, "when(1)", y -> y.when(Scenes.WRAPPED));
    }

    private void seen() {
        s.promise(20, "HANDS that it comes into on the way (64 DAYS at most; whose it is in now, too), as a set.");
        WrappedHands x = Scenes.rich();
        s.due("WRAPPED", 0b1010100, x.seen(Scenes.WRAPPED));
        s.due("BARE", 0b1100000, x.seen(Scenes.BARE));
        s.due("a ROUND", 0b1010100, Scenes.rounds().seen(Scenes.WRAPPED));
        s.due("whose it is in now, alone", 0b1, fiveAtOnce().seen(0));
        s.due("all, the last on the 19th day", 0xff, Scenes.latest().seen(0));
        x.change(6, 1, 6);
        x.send(Scenes.BARE, 6);
        s.due("who keeps handing on to oneself", 0b1000000, x.seen(Scenes.BARE));
        s.promise(20, "BEYOND.");
        s.refusedWith(Scenes.NO_GIFTS, Scenes::rich, Expect.BEYOND, "seen(?)", (y, v) -> y.seen(v));
        s.promise(20, "STATE.");
        s.refusedWith(Scenes.NOT_IN_A_HAND, Scenes::rich, Expect.STATE, "seen(?)", (y, v) -> y.seen(v));
    }
}
