/** Promises 1 to 4: a new object, people. */
final class PeopleEdges {
    private static final int[] NO_KINDS = {Integer.MIN_VALUE, -1, 7, Integer.MAX_VALUE};
    private static final int[] NO_WHATS = {Integer.MIN_VALUE, -1, 6, Integer.MAX_VALUE};

    private final Sentences s;

    PeopleEdges(Sentences s) {
        this.s = s;
    }

    void all() {
        newObject();
        person();
        of();
        change();
        changeBeyond();
    }

    private void newObject() {
        s.promise(1, "All as at first; no PEOPLE, GIFTS; THE TAPE is empty, no image is kept.");
        Scenes.rich();
        WrappedHands x = new WrappedHands();
        int[] counts = {0, 0, 0, 0, 0, 0, 1, 0};
        for (int what = 0; what <= 7; what++) {
            s.due("count(" + what + ")", counts[what], x.count(what));
        }
        int[] now = {0, 0, 0, 0, 9, 1, 0};
        for (int what = 0; what <= 6; what++) {
            s.due("now(" + what + ")", now[what], x.now(what));
        }
        for (int which = -1; which <= 6; which++) {
            s.due("status(" + which + ")", 0, x.status(which));
        }
        s.due("tear()", 0, x.tear());
        s.due("undo()", Expect.NONE, x.undo());
        s.due("wipe()", 0, x.wipe());
        s.due("rounds()", 0, x.rounds());
        for (int sheet = 0; sheet <= 3; sheet++) {
            s.due("sheet " + sheet, Expect.MISSING, x.load(sheet));
        }
        for (int spot = 0; spot <= 9; spot++) {
            s.due("spot " + spot, Expect.MISSING, x.as(spot, 0));
        }
        nobodyThere();
        nothingThere();
    }

    private void nobodyThere() {
        WrappedHands x = new WrappedHands();
        long[] beyond = {
            x.of(0, 0), x.change(0, 0, 0), x.gift(1, 0, 0), x.send(0, 0), x.writes(0, 0), x.hands(0, 0),
            x.keeps(0, 0), x.senders(0, 0), x.wish(0, 0), x.turn(0, 0, 0), x.kindFor(0), x.hopes(0), x.hold(0, 0)};
        for (int i = 0; i < beyond.length; i++) {
            s.due("BEYOND, with nobody there " + i, Expect.BEYOND, beyond[i]);
        }
        s.due("missed()", Expect.NONE, x.missed());
        s.due("wind(1)", Expect.STATE, x.wind(1));
        s.due("text()", -1, x.text());
        s.due("days(60)", 0, x.days(60));
    }

    private void nothingThere() {
        WrappedHands x = Scenes.onePerson();
        long[] beyond = {
            x.giftOf(0, 0), x.layer(0, 0, 0), x.send(0, 0), x.open(0), x.skin(0, 1), x.writes(0, 0), x.hands(0, 0),
            x.keeps(0, 0), x.ahead(0, 2), x.fate(0), x.when(0), x.seen(0), x.senders(0, 0), x.fates(0),
            x.wish(0, 0), x.turn(0, 0, 0), x.ends(0), x.law(0), x.writers(0, 0), x.ways(0), x.forged(0),
            x.guess(0, 0)};
        for (int i = 0; i < beyond.length; i++) {
            s.due("BEYOND, with no gifts " + i, Expect.BEYOND, beyond[i]);
        }
        s.due("ahead(60, 0)", 0, x.ahead(60, 0));
        s.due("ahead(60, 1)", 0, x.ahead(60, 1));
        s.due("hopes(0)", 0, x.hopes(0));
        s.due("kindFor(0)", 0, x.kindFor(0));
        s.due("missed()", 0, x.missed());
        s.due("wind(1)", Expect.STATE, x.wind(1));
    }

    private void person() {
        s.promise(2, "Another one: the number.");
        WrappedHands x = new WrappedHands();
        for (int p = 0; p < 8; p++) {
            s.due("one of kind " + p % 7, p, x.person(p % 7));
            s.due("kind of " + p, p % 7, x.of(p, 0));
            s.due("how many", p + 1, x.count(1));
        }
        s.promise(2, "BEYOND.");
        s.refusedWith(NO_KINDS, Scenes::rich, Expect.BEYOND, "person(?)", (y, v) -> y.person(v));
        s.refusedWith(NO_KINDS, Scenes::fullOfPeople, Expect.BEYOND, "person(?)", (y, v) -> y.person(v));
        s.promise(2, "FULL.");
        s.due("an 8th", 7, Scenes.rich().person(6));
        int[] kinds = {0, 1, 2, 3, 4, 5, 6};
        s.refusedWith(kinds, Scenes::fullOfPeople, Expect.FULL, "person(?)", (y, v) -> y.person(v));
    }

    private void of() {
        s.promise(3, "Of one: what 0 KIND, 1 NEXT, 2 WISH, 3 GREED, 4 GIFTS in one's HAND, as a set, 5 GIFTS that"
                + " one KEPT, as a set.");
        int[][] due = {
            {0, 1, 3, 50, 0, 0}, {1, 2, 0, 50, 0, 1 << Scenes.KEPT}, {2, 3, 0, 50, 1 << Scenes.WRAPPED, 0},
            {3, 4, 0, 50, 0, 0}, {4, 5, 0, 50, 0, 0},
            {5, 6, 0, 50, 1 << Scenes.OUTER | 1 << Scenes.BARE, 0}, {6, 7, 0, 50, 0, 0}};
        WrappedHands x = Scenes.rich();
        for (int p = 0; p < due.length; p++) {
            for (int what = 0; what <= 5; what++) {
                s.due("of(" + p + ", " + what + ")", due[p][what], x.of(p, what));
            }
        }
        x.days(3);
        s.due("KEPT by 5 by then", 1 << Scenes.OUTER | 1 << Scenes.BARE, x.of(5, 5));
        s.due("in the HAND of 5 by then", 0, x.of(5, 4));
        s.promise(3, "BEYOND.");
        s.refusedWith(Scenes.NO_PEOPLE, Scenes::rich, Expect.BEYOND, "of(?, 0)", (y, v) -> y.of(v, 0));
        s.refusedWith(Scenes.NO_PEOPLE, Scenes::rich, Expect.BEYOND, "of(?, 4)", (y, v) -> y.of(v, 4));
        s.refusedWith(NO_WHATS, Scenes::rich, Expect.BEYOND, "of(0, ?)", (y, v) -> y.of(0, v));
        s.refused(Scenes::empty, Expect.BEYOND, "of(0, 0) of nobody", y -> y.of(0, 0));
    }

    private void change() {
        s.promise(4, "KIND (what 0), NEXT (1), WISH (2), GREED (3) of one becomes v: what it was.");
        WrappedHands x = Scenes.rich();
        int[] most = {6, 7, 7, 99};
        for (int what = 0; what <= 3; what++) {
            int first = x.of(6, what);
            s.due("to 0", first, x.change(6, what, 0));
            s.due("to the most", 0, x.change(6, what, most[what]));
            s.due("to the same", most[what], x.change(6, what, most[what]));
            for (int other = 0; other <= 3; other++) {
                int due = other <= what ? most[other] : new int[] {6, 7, 0, 50}[other];
                s.due("then of(6, " + other + ")", due, x.of(6, other));
            }
        }
        s.due("another's is as it was", 50, x.of(5, 3));
    }

    private void changeBeyond() {
        s.promise(4, "BEYOND.");
        int[] most = {6, 7, 7, 99};
        for (int what = 0; what <= 3; what++) {
            int trait = what;
            int[] wrong = {Integer.MIN_VALUE, -1, most[what] + 1, Integer.MAX_VALUE};
            s.refusedWith(wrong, Scenes::rich, Expect.BEYOND, "change(6, " + what + ", ?)",
                    (x, v) -> x.change(6, trait, v));
            s.refusedWith(Scenes.NO_PEOPLE, Scenes::rich, Expect.BEYOND, "change(?, " + what + ", 1)",
                    (x, v) -> x.change(v, trait, 1));
        }
        int[] wrong = {Integer.MIN_VALUE, -1, 4, Integer.MAX_VALUE};
        s.refusedWith(wrong, Scenes::rich, Expect.BEYOND, "change(0, ?, 0)", (x, v) -> x.change(0, v, 0));
        s.refused(Scenes::rich, Expect.BEYOND, "change(0, 4, -1)", x -> x.change(0, 4, -1));
        s.refused(Scenes::empty, Expect.BEYOND, "change(0, 0, 0) of nobody", x -> x.change(0, 0, 0));
    }
}
