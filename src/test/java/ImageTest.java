/** Promises 47 to 51: images, counts, status. */
public final class ImageTest {
    private static final Expect expect = new Expect("ImageTest");

    public static void main(String[] args) {
        undoTakesAllBack();
        layersAndSkinsComeBack();
        tapeSheetsAndStatusStay();
        theLatestStays();
        tear();
        count();
        statusOfEach();
        statusOfItself();
        whatIsNoFinding();
        expect.close();
    }

    private static WrappedHands inTheMidst() {
        WrappedHands x = Coasts.hands(3);
        x.change(0, 2, 2);
        x.change(0, 3, 5);
        x.gift(4, 30, 0);
        x.gift(5, 20, 0);
        x.gift(6, 10, 0);
        x.skin(1, 2);
        x.hold(4, 1);
        x.rule(0, 5);
        x.rule(1, 2);
        x.days(1);
        return x;
    }

    private static long allOf(WrappedHands x) {
        long sum = 7;
        for (int what = 0; what <= 7; what++) {
            sum = 31 * sum + (what == 5 ? 0 : x.count(what));
        }
        for (int p = 0; p < x.count(1); p++) {
            for (int what = 0; what <= 5; what++) {
                sum = 31 * sum + x.of(p, what);
            }
        }
        for (int g = 0; g < x.count(2); g++) {
            for (int what = 0; what <= 5; what++) {
                sum = 31 * sum + x.giftOf(g, what);
            }
            for (int i = 0; i < x.giftOf(g, 4); i++) {
                sum = 31 * sum + 100 * x.layer(g, i, 0) + x.layer(g, i, 1);
            }
        }
        for (int spot = 0; spot < 10; spot++) {
            sum = 31 * sum + x.as(spot, 0);
        }
        return 31 * (31 * sum + x.now(4)) + x.now(5);
    }

    private static void undoTakesAllBack() {
        WrappedHands x = inTheMidst();
        long before = allOf(x);
        expect.due("image", 1, x.image());
        expect.due("an image changes nothing", before, allOf(x));
        x.days(7);
        x.person(Coasts.IMP);
        x.change(0, 0, Coasts.CHILD);
        x.change(1, 1, 6);
        x.change(1, 2, 6);
        x.change(1, 3, 6);
        x.gift(1, 1, 3);
        x.hold(4, 3);
        x.hold(5, 3);
        x.rule(0, 6);
        x.rule(1, 6);
        x.seed(77);
        expect.due("undo", 1, x.undo());
        expect.due("all is as it was", before, allOf(x));
        expect.due("nobody more", Expect.BEYOND, x.of(3, 0));
        expect.due("no gift more", Expect.BEYOND, x.giftOf(3, 0));
        expect.due("z", 1, x.count(6));
        expect.due("days go on from there", 2, x.days(2));
        expect.due("KEPT by 2", 2, x.giftOf(0, 2));
    }

    /** What is undone has written over all of a gift that was kept. */
    private static void layersAndSkinsComeBack() {
        WrappedHands x = Coasts.hands(4);
        x.change(0, 2, 7);
        x.gift(3, 0, 0);
        x.gift(4, 0, 1);
        x.gift(5, 0, 1);
        x.days(1);
        x.open(1);
        x.open(2);
        long before = allOf(x);
        x.image();
        x.open(0);
        x.send(0, 3);
        x.days(1);
        x.open(1);
        x.open(2);
        expect.due("1 in 2", 9, x.skin(1, 2));
        expect.due("another has laid the layer", 3, x.layer(0, 0, 1));
        x.undo();
        expect.due("layers and skins", before, allOf(x));
        expect.due("0 laid it", 0, x.layer(0, 0, 1));
        expect.due("with the name 7", 7, x.layer(0, 0, 0));
        expect.due("2 WEIGHS 5", 5, x.giftOf(2, 5));
        x.skin(1, 2);
        x.image();
        x.days(1);
        x.undo();
        expect.due("2 WEIGHS 9", 9, x.giftOf(2, 5));
    }

    private static void tapeSheetsAndStatusStay() {
        WrappedHands x = Coasts.hands(2);
        x.sheet(0, 8, 2);
        x.write(0, 0, 3);
        x.feed('l', 1);
        x.image();
        x.write(0, 1, 4);
        x.sheet(1, 16, 1);
        x.feed('a', 1);
        x.feed('w', 1);
        x.feed('7', 1);
        x.person(9);
        x.undo();
        expect.due("the finding is not taken back", 1, x.status(0));
        expect.due("the tape stays", 4, x.count(5));
        expect.due("and reads", 1, x.text());
        expect.due("sheet 0 stays", 2, x.load(0));
        expect.due("its number, too", 4, x.of(1, 2));
        expect.due("sheet 1 stays", 1, x.load(1));
        expect.due("an undo is no image of its own", 0, x.undo());
        expect.due("LAW is back", 9, x.now(4));
        expect.due("WISH is back", 0, x.of(1, 2));
    }

    private static void theLatestStays() {
        WrappedHands x = new WrappedHands();
        expect.due("nothing kept", Expect.NONE, x.undo());
        x.days(1);
        x.image();
        x.days(1);
        x.image();
        x.days(5);
        expect.due("the latest", 2, x.undo());
        x.days(9);
        expect.due("which stays", 2, x.undo());
    }

    private static void tear() {
        WrappedHands x = new WrappedHands();
        expect.due("nothing to tear", 0, x.tear());
        x.image();
        x.image();
        expect.due("both", 1, x.tear());
        expect.due("nothing is kept", Expect.NONE, x.undo());
        expect.due("nothing more", 0, x.tear());
        x.days(3);
        x.image();
        expect.due("a new one", 3, x.undo());
    }

    private static void count() {
        WrappedHands x = inTheMidst();
        x.feed(0, 3);
        x.seed(-5);
        int[] due = {1, 3, 3, 2, 60, 3, -5, 1};
        for (int what = 0; what < due.length; what++) {
            expect.due("count(" + what + ")", due[what], x.count(what));
        }
        expect.due("count(8)", Expect.BEYOND, x.count(8));
        expect.due("count(-1)", Expect.BEYOND, x.count(-1));
    }

    private static void statusOfEach() {
        WrappedHands x = new WrappedHands();
        for (int which = -1; which <= 6; which++) {
            expect.due("none yet " + which, 0, x.status(which));
        }
        x.person(7);
        x.ways(0);
        x.tear();
        for (int i = 0; i < 9; i++) {
            x.person(0);
        }
        x.hold(0, 0);
        x.as(0, 1);
        x.as(0, 2);
        x.as(0, 3);
        x.undo();
        x.gift(1, 1, 0);
        x.open(0);
        x.open(0);
        x.open(0);
        x.rule(0, 20);
        x.change(0, 2, 0);
        x.ends(0);
        x.as(1, 0);
        x.sheet(0, 8, -1);
        x.sheet(0, 8, -2);
        int[] due = {2, 1, 3, 4, 1, 1, 2};
        int all = 0;
        for (int which = 0; which < due.length; which++) {
            expect.due("status(" + which + ")", due[which], x.status(which));
            all += due[which];
        }
        expect.due("status(-1)", all, x.status(-1));
    }

    private static void statusOfItself() {
        WrappedHands x = new WrappedHands();
        expect.due("status(7)", Expect.BEYOND, x.status(7));
        expect.due("counted from then on", 1, x.status(0));
        expect.due("status(-2)", Expect.BEYOND, x.status(-2));
        expect.due("counted, too", 2, x.status(-1));
    }

    private static void whatIsNoFinding() {
        WrappedHands x = Coasts.hands(1);
        x.text();
        x.seed(-1000003);
        x.count(6);
        x.seed(1);
        x.gift(1, 0, 0);
        x.gift(1, 0, 0);
        x.skin(0, 1);
        x.giftOf(0, 2);
        x.ahead(1, 2);
        expect.due("none of them", 0, x.status(-1));
    }
}
