/** Promises 47 to 51: images, counts, status. */
final class ImageEdges {
    private final Sentences s;

    ImageEdges(Sentences s) {
        this.s = s;
    }

    void all() {
        image();
        undo();
        undoRefused();
        tear();
        count();
        status();
        statusOfEach();
        statusBeyond();
    }

    private void image() {
        s.promise(47, "All but THE TAPE and SHEETS is kept: 1.");
        WrappedHands x = Scenes.rich();
        WrappedHands untouched = Scenes.rich();
        s.due("image()", 1, x.image());
        s.due("image() again", 1, x.image());
        untouched.image();
        changeAll(x);
        x.undo();
        x.wipe();
        untouched.wipe();
        for (int sheet = 0; sheet <= 3; sheet++) {
            x.sheet(sheet, 0, 0);
            untouched.sheet(sheet, 0, 0);
        }
        s.due("all else is as it was", 1, Whole.of(x).equals(Whole.of(untouched)) ? 1 : 0);
        WrappedHands z = Scenes.rich();
        z.image();
        changeAll(z);
        z.undo();
        s.due("THE TAPE isn't kept", 8, z.count(5));
        s.due("nor a sheet's number", 3, z.load(Scenes.EIGHT));
        s.due("which is the new one", 2, z.of(0, 2));
        s.due("nor that one was MISSING", 4, z.load(Scenes.MISSING));
        s.due("an image of nothing", 1, new WrappedHands().image());
        twelveLayersAreKept();
    }

    private static void changeAll(WrappedHands x) {
        x.seed(-7);
        x.rule(0, 3);
        x.rule(1, 5);
        x.person(Coasts.IMP);
        for (int p = 0; p < 8; p++) {
            x.change(p, 0, (p + 3) % 7);
            x.change(p, 1, 7);
            x.change(p, 2, 5);
            x.change(p, 3, 9);
        }
        x.skin(Scenes.BARE, Scenes.OUTER);
        x.open(Scenes.WRAPPED);
        x.open(Scenes.WRAPPED);
        x.rule(0, 20);
        x.send(Scenes.WRAPPED, 4);
        x.days(4);
        x.wind(12);
        for (int spot = 0; spot <= 9; spot++) {
            x.hold(spot, 5);
        }
        x.hold(0, -1);
        x.hold(5, 7);
        x.hold(3, 2);
        x.feed(0x3b6c61, 3);
        x.write(Scenes.EIGHT, 0, 2);
        x.sheet(Scenes.MISSING, 32, 4);
    }

    /** 0 and 1 lay the layers by turns, at each turn with another name. */
    private void twelveLayersAreKept() {
        WrappedHands x = Coasts.hands(2);
        x.rule(0, 20);
        x.gift(1, 0, 0);
        for (int i = 0; i < 12; i++) {
            x.change(i % 2, 2, 2 + i % 5);
            x.days(1);
        }
        x.image();
        for (int i = 0; i < 12; i++) {
            x.open(0);
        }
        x.send(0, 1);
        x.change(0, 2, 7);
        x.change(1, 2, 7);
        x.days(12);
        s.due("all were laid anew", 7, x.layer(0, 11, 0));
        x.undo();
        for (int i = 0; i < 12; i++) {
            s.due("NAME of layer " + i, 2 + i % 5, x.layer(0, i, 0));
            s.due("HAND of layer " + i, i % 2, x.layer(0, i, 1));
        }
    }

    private void undo() {
        s.promise(48, "It becomes what was kept latest (which stays): DAY.");
        WrappedHands x = new WrappedHands();
        x.image();
        s.due("DAY 0", 0, x.undo());
        x.person(0);
        x.days(60);
        x.image();
        x.days(1);
        x.image();
        x.days(9);
        s.due("the latest of three", 61, x.undo());
        x.days(9);
        x.person(1);
        s.due("it stays", 61, x.undo());
        s.due("one is there", 1, x.count(1));
        x.change(0, 2, 5);
        x.undo();
        s.due("it isn't changed by what comes later", 0, x.of(0, 2));
        x.days(1);
        x.image();
        s.due("one kept behind an undo", 62, x.undo());
        WrappedHands z = Scenes.lastDay();
        z.image();
        z.undo();
        s.due("the last DAY stays the last", Expect.STATE, z.days(1));
        newOnesBehindAnUndo();
    }

    /** Whoever and whatever comes behind an undo is as at first, whatever was there before it. */
    private void newOnesBehindAnUndo() {
        WrappedHands x = Scenes.onePerson();
        x.image();
        x.person(Coasts.IMP);
        x.change(1, 1, 7);
        x.change(1, 2, 6);
        x.change(1, 3, 99);
        x.gift(50, 99, 1);
        x.gift(7, 8, 1);
        x.gift(9, 9, 1);
        x.skin(2, 1);
        x.days(3);
        x.undo();
        s.due("nobody more", 1, x.count(1));
        s.due("no gift more", 0, x.count(2));
        s.due("another one", 1, x.person(Coasts.CHILD));
        int[] one = {Coasts.CHILD, 2, 0, 50, 0, 0};
        for (int what = 0; what <= 5; what++) {
            s.due("of(1, " + what + ")", one[what], x.of(1, what));
        }
        int[] gift = {3, 4, 0, 0, 0, 3};
        for (int g = 0; g <= 2; g++) {
            s.due("a new gift", g, x.gift(3, 4, 0));
            for (int what = 0; what <= 5; what++) {
                s.due("giftOf(" + g + ", " + what + ")", gift[what], x.giftOf(g, what));
            }
        }
    }

    private void undoRefused() {
        s.promise(48, "NONE: nothing is kept.");
        s.refused(Scenes::empty, Expect.NONE, "undo()", WrappedHands::undo);
        s.refused(Scenes::onePerson, Expect.NONE, "undo() of one", WrappedHands::undo);
        s.refused(Scenes::torn, Expect.NONE, "undo() of a torn one", WrappedHands::undo);
    }

    private void tear() {
        s.promise(49, "Nothing is kept: 1 if something was, else 0.");
        WrappedHands x = new WrappedHands();
        s.due("nothing at first", 0, x.tear());
        x.image();
        x.image();
        s.due("something", 1, x.tear());
        s.due("nothing then", 0, x.tear());
        s.due("undo()", Expect.NONE, x.undo());
        x.image();
        x.undo();
        s.due("what was undone is kept", 1, x.tear());
        s.due("all else is as it was", 2, Scenes.torn().count(0));
    }

    private void count() {
        s.promise(50, "0 DAY, 1 PEOPLE, 2 GIFTS, 3 LAYERS of all, 4 WORTH of all GIFTS, 5 bytes of THE TAPE, 6 z,"
                + " 7 SPOTS that hold something.");
        WrappedHands x = Scenes.rich();
        int[] due = {2, 7, 5, 2, 109, 5, 12345, 3};
        for (int what = 0; what <= 7; what++) {
            s.due("count(" + what + ")", due[what], x.count(what));
        }
        WrappedHands full = Scenes.fullOfPeople();
        for (int spot = 0; spot <= 9; spot++) {
            full.hold(spot, spot % 8);
        }
        full.rule(0, 20);
        full.seed(Integer.MIN_VALUE);
        s.due("all PEOPLE", 8, full.count(1));
        s.due("all SPOTS", 10, full.count(7));
        s.due("z", Integer.MIN_VALUE, full.count(6));
        s.promise(50, "BEYOND: another what.");
        s.refusedWith(new int[] {Integer.MIN_VALUE, -1, 8, Integer.MAX_VALUE}, Scenes::rich, Expect.BEYOND,
                "count(?)", (y, v) -> y.count(v));
    }

    private void status() {
        s.promise(51, "How many acts answered a finding ever (undo() takes none back): which -1: all, 0 to 6: BEYOND"
                + " to SIZE.");
        WrappedHands x = Scenes.rich();
        s.due("none so far", 0, x.status(-1));
        x.image();
        x.person(7);
        x.open(Scenes.BARE);
        x.undo();
        s.due("BEYOND, before the undo", 1, x.status(0));
        s.due("NONE, before the undo", 1, x.status(3));
        s.due("all", 2, x.status(-1));
        s.due("telling them is no finding", 2, x.status(-1));
        WrappedHands z = new WrappedHands();
        for (int call = 1; call <= 511; call++) {
            z.ways(0);
        }
        s.due("the 512th call tells 511", 511, z.status(-1));
        s.due("a fault of a text is none", 0, faulty().status(-1));
    }

    private static WrappedHands faulty() {
        WrappedHands x = Scenes.rich();
        x.text();
        x.text();
        return x;
    }

    private void statusOfEach() {
        WrappedHands x = Scenes.fullOfPeople();
        for (int round = 1; round <= 3; round++) {
            x.person(7);
            x.person(0);
            x.as(0, Coasts.IMP);
            x.open(Scenes.BARE);
            x.open(Scenes.KEPT);
            x.load(Scenes.MISSING);
            x.sheet(0, 8, -1);
            for (int which = 0; which <= 6; which++) {
                s.due("status(" + which + ")", round, x.status(which));
            }
            s.due("status(-1)", 7 * round, x.status(-1));
        }
    }

    private void statusBeyond() {
        s.promise(51, "BEYOND (counted from then on): another one.");
        s.refusedWith(new int[] {Integer.MIN_VALUE, -2, 7, Integer.MAX_VALUE}, Scenes::rich, Expect.BEYOND,
                "status(?)", (x, v) -> x.status(v));
        WrappedHands x = new WrappedHands();
        s.due("status(7)", Expect.BEYOND, x.status(7));
        s.due("counted", 1, x.status(0));
        s.due("status(-2)", Expect.BEYOND, x.status(-2));
        s.due("counted with it", 2, x.status(-1));
    }
}
