/** Terms, the head: what findings are, in which order they are asked, what they leave. */
final class FindingEdges {
    private final Sentences s;

    FindingEdges(Sentences s) {
        this.s = s;
    }

    void all() {
        numbers();
        anyIntIsNoFinding();
        orderOfPeopleAndGifts();
        orderOfDays();
        orderOfTheRest();
        nothingChanges();
        quotientsAndSets();
        theLeastNumber();
    }

    private void numbers() {
        s.terms("FINDINGS are answers below -1000000: LOW is -1000001; LOW BEYOND, LOW - 1 FULL, LOW - 2 KIND,"
                + " LOW - 3 NONE, LOW - 4 STATE, LOW - 5 MISSING, LOW - 6 SIZE.");
        WrappedHands x = Scenes.fullOfPeople();
        s.due("BEYOND", -1000001, x.person(7));
        s.due("FULL", -1000002, x.person(0));
        s.due("KIND", -1000003, x.as(0, Coasts.BLIND));
        s.due("NONE", -1000004, x.open(Scenes.BARE));
        s.due("STATE", -1000005, x.open(Scenes.KEPT));
        s.due("MISSING", -1000006, x.load(Scenes.MISSING));
        s.due("SIZE", -1000007, x.sheet(0, 8, -1));
    }

    private void anyIntIsNoFinding() {
        s.terms("What seed() and count(6) tell, z, may be any int: that is no finding.");
        WrappedHands x = new WrappedHands();
        int before = 1;
        int[] likeFindings = {Expect.BEYOND, Expect.FULL, Expect.KIND, Expect.NONE, Expect.STATE,
            Expect.MISSING, Expect.SIZE, Integer.MIN_VALUE, Integer.MAX_VALUE, 0};
        for (int z : likeFindings) {
            s.due("seed(" + z + ")", before, x.seed(z));
            s.due("count(6)", z, x.count(6));
            before = z;
        }
        for (int which = -1; which <= 6; which++) {
            s.due("status(" + which + ")", 0, x.status(which));
        }
    }

    private void orderOfPeopleAndGifts() {
        s.terms("Each act tells its findings in the order in which they are asked (that of its words);");
        s.due("person: BEYOND, FULL", Expect.BEYOND, Scenes.fullOfPeople().person(7));
        WrappedHands x = Scenes.rich();
        s.due("gift: BEYOND, FULL", Expect.BEYOND, x.gift(0, 0, 0));
        s.due("gift of much worth: BEYOND, FULL", Expect.BEYOND, x.gift(1, 100, 0));
        s.due("gift for nobody: BEYOND, FULL", Expect.BEYOND, x.gift(1, 0, Scenes.NOBODY));
        s.due("layer: BEYOND of what, NONE", Expect.BEYOND, x.layer(Scenes.BARE, 0, 2));
        s.due("layer: BEYOND of i, NONE", Expect.BEYOND, x.layer(Scenes.BARE, 12, 0));
        s.due("send: BEYOND, STATE", Expect.BEYOND, x.send(Scenes.KEPT, Scenes.NOBODY));
        s.due("open: STATE, NONE", Expect.STATE, x.open(Scenes.KEPT));
        s.due("skin: BEYOND of the other, STATE", Expect.BEYOND, x.skin(Scenes.KEPT, Scenes.NO_GIFT));
        s.due("skin: BEYOND of the one, STATE", Expect.BEYOND, x.skin(Scenes.NO_GIFT, Scenes.KEPT));
        s.due("skin: BEYOND of the same, STATE", Expect.BEYOND, x.skin(Scenes.KEPT, Scenes.KEPT));
    }

    private void orderOfDays() {
        WrappedHands x = Scenes.lastDays();
        s.due("days: BEYOND, STATE", Expect.BEYOND, x.days(61));
        s.due("ahead: BEYOND of n, STATE", Expect.BEYOND, x.ahead(61, 0));
        s.due("ahead: BEYOND of what, STATE", Expect.BEYOND, x.ahead(60, 2 + Scenes.NO_GIFT));
        s.due("senders: BEYOND, STATE", Expect.BEYOND, x.senders(Scenes.KEPT, Scenes.NOBODY));
        s.due("wish: BEYOND, STATE", Expect.BEYOND, x.wish(Scenes.KEPT, Scenes.NOBODY));
        s.due("turn: BEYOND of the first, STATE", Expect.BEYOND, x.turn(Scenes.NOBODY, Scenes.KEPT, 0));
        s.due("turn: BEYOND of the last, STATE", Expect.BEYOND, x.turn(0, Scenes.KEPT, Scenes.NOBODY));
        x.sheet(0, 8, 10);
        s.due("judge: BEYOND of the gift, STATE", Expect.BEYOND, x.judge(0, Scenes.NO_GIFT));
        s.due("judge: STATE", Expect.STATE, x.judge(0, Scenes.BARE));
    }

    private void orderOfTheRest() {
        WrappedHands x = Scenes.rich();
        s.due("writers: BEYOND, NONE", Expect.BEYOND, x.writers(Scenes.BARE, 12));
        s.due("guess: BEYOND, NONE", Expect.BEYOND, x.guess(Scenes.BARE, 1000));
        s.due("wind: BEYOND, STATE", Expect.BEYOND, new WrappedHands().wind(13));
        s.due("feed: BEYOND, FULL", Expect.BEYOND, Scenes.nearlyFullTape().feed(0, 5));
        s.due("as: BEYOND of the kind, MISSING", Expect.BEYOND, x.as(1, 7));
        s.due("as: BEYOND of the kind, KIND", Expect.BEYOND, x.as(0, 7));
        s.due("sheet: BEYOND of the sheet, SIZE", Expect.BEYOND, x.sheet(4, 8, -1));
        s.due("sheet: BEYOND of the bits, SIZE", Expect.BEYOND, x.sheet(0, 9, -1));
        s.due("write: MISSING, BEYOND of the number", Expect.MISSING, x.write(Scenes.MISSING, -1, 0));
        s.due("copy: BEYOND of the one, MISSING", Expect.BEYOND, x.copy(4, 0, Scenes.MISSING, 0, 0));
        s.due("copy: BEYOND of the other, MISSING", Expect.BEYOND, x.copy(Scenes.MISSING, 0, 4, 0, 0));
        s.due("copy: MISSING, BEYOND of n", Expect.MISSING, x.copy(Scenes.MISSING, 0, 0, 0, -1));
        s.due("copy: KIND, BEYOND of n", Expect.KIND, x.copy(Scenes.EIGHT, 0, Scenes.SIXTEEN, 0, -1));
        s.due("judge: BEYOND of the sheet, of the gift", Expect.BEYOND, x.judge(4, Scenes.NO_GIFT));
        s.due("judge: MISSING, BEYOND of the gift", Expect.MISSING, x.judge(Scenes.MISSING, Scenes.NO_GIFT));
    }

    /** Each promise's own findings are held against an untouched coast with the promise, too. */
    private void nothingChanges() {
        s.terms("one that answers a finding changes nothing but status().");
        s.refused(Scenes::fullOfPeople, Expect.FULL, "person(0)", x -> x.person(0));
        s.refused(Scenes::rich, Expect.BEYOND, "change(0, 1, 8)", x -> x.change(0, 1, 8));
        s.refused(Scenes::lastDays, Expect.STATE, "days(60)", x -> x.days(60));
        s.refused(Scenes::rounds, Expect.NONE, "wish", x -> x.wish(Scenes.WRAPPED, 0));
        s.refused(Scenes::nearlyFullTape, Expect.FULL, "feed(0, 4)", x -> x.feed(0, 4));
        s.refused(Scenes::rich, Expect.SIZE, "sheet(0, 0, -1)", x -> x.sheet(0, 0, -1));
        s.refused(Scenes::torn, Expect.NONE, "undo()", WrappedHands::undo);
    }

    /** Of a draw without a sign the rest is never below 0; 13 - 10 by 2 is no number of layers. */
    private void quotientsAndSets() {
        s.terms("Quotients are cut.");
        WrappedHands x = Coasts.of(Coasts.HAND);
        x.gift(10, 0, 0);
        x.rule(1, 2);
        s.due("guess in between", Expect.NONE, x.guess(0, 13));
        s.terms("Sets are told as bits;");
        WrappedHands y = Coasts.hands(1);
        s.due("no gifts", 0, y.now(1));
        for (int g = 0; g < 5; g++) {
            y.gift(1, 0, 0);
            s.due("gifts 0 to " + g, (2 << g) - 1, y.now(1));
        }
    }

    private void theLeastNumber() {
        s.terms("of several that would do the least number counts, where nothing else is told.");
        WrappedHands x = Coasts.of(Coasts.IMP, Coasts.IMP);
        s.due("no gift: all kinds", 0, x.kindFor(1));
        s.due("no gift: all people", 0, x.missed());
        x.gift(5, 10, 0);
        x.change(1, 3, 5);
        x.rule(0, 20);
        s.due("KEEPING and IN LAW", Coasts.KEEPING, x.kindFor(1));
        WrappedHands y = Coasts.ringToTwo();
        s.due("1 and 2 are missed", 1, y.missed());
        y.change(0, 0, Coasts.CHILD);
        s.due("all eight wishes", 0, y.wish(0, 0));
        s.due("paper of no weight", 0, paperless().guess(0, 5));
    }

    private static WrappedHands paperless() {
        WrappedHands x = Coasts.ringToTwo();
        x.rule(1, 0);
        return x;
    }
}
