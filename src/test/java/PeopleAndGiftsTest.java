/** Promises 1 to 11: a new object, people, gifts. */
public final class PeopleAndGiftsTest {
    private static final Expect expect = new Expect("PeopleAndGiftsTest");

    public static void main(String[] args) {
        newObject();
        person();
        of();
        change();
        gift();
        giftOf();
        layer();
        rule();
        send();
        open();
        skin();
        skinOfKeptOnes();
        skinOfSkins();
        expect.close();
    }

    private static void newObject() {
        WrappedHands x = new WrappedHands();
        for (int what = 0; what <= 7; what++) {
            expect.due("new: count(" + what + ")", what == 6 ? 1 : 0, x.count(what));
        }
        expect.due("new: LAW", 9, x.now(4));
        expect.due("new: PAPER", 1, x.now(5));
        expect.due("new: no image", Expect.NONE, x.undo());
        expect.due("new: nothing to tear", 0, x.tear());
        expect.due("new: tape", 0, x.wipe());
        for (int s = 0; s < 4; s++) {
            expect.due("new: sheet " + s, Expect.MISSING, x.load(s));
        }
        for (int spot = 0; spot < 10; spot++) {
            expect.due("new: spot " + spot, Expect.MISSING, x.as(spot, 0));
        }
        expect.due("new: status", 15, x.status(-1));
        expect.due("new: another object", 0, new WrappedHands().status(-1));
    }

    private static void person() {
        WrappedHands x = new WrappedHands();
        expect.due("person(-1)", Expect.BEYOND, x.person(-1));
        expect.due("person(7)", Expect.BEYOND, x.person(7));
        for (int p = 0; p < 8; p++) {
            expect.due("person " + p, p, x.person(p % 7));
        }
        expect.due("a 9th", Expect.FULL, x.person(0));
        expect.due("BEYOND is asked first", Expect.BEYOND, x.person(7));
        expect.due("people", 8, x.count(1));
        for (int p = 0; p < 8; p++) {
            expect.due("KIND of " + p, p % 7, x.of(p, 0));
            expect.due("NEXT of " + p, p == 7 ? 0 : p + 1, x.of(p, 1));
            expect.due("WISH of " + p, 0, x.of(p, 2));
            expect.due("GREED of " + p, 50, x.of(p, 3));
            expect.due("GIFTS of " + p, 0, x.of(p, 4));
            expect.due("KEPT by " + p, 0, x.of(p, 5));
        }
    }

    private static void of() {
        WrappedHands x = Coasts.of(Coasts.HAND, Coasts.KEEPING);
        expect.due("of(-1, 0)", Expect.BEYOND, x.of(-1, 0));
        expect.due("of(2, 0)", Expect.BEYOND, x.of(2, 0));
        expect.due("of(0, -1)", Expect.BEYOND, x.of(0, -1));
        expect.due("of(0, 6)", Expect.BEYOND, x.of(0, 6));
        x.gift(1, 0, 0);
        x.gift(50, 0, 1);
        x.gift(2, 0, 0);
        x.gift(3, 0, 0);
        x.skin(2, 3);
        expect.due("in the HAND of 0, none WITHIN", 0b1001, x.of(0, 4));
        expect.due("in the HAND of 1", 0b0010, x.of(1, 4));
        expect.due("KEPT by 1 so far", 0, x.of(1, 5));
        x.days(1);
        expect.due("in the HAND of 1 then", 0b1001, x.of(1, 4));
        expect.due("KEPT by 1 then", 0b0010, x.of(1, 5));
        expect.due("KEPT by 0", 0, x.of(0, 5));
    }

    private static void change() {
        WrappedHands x = Coasts.of(Coasts.IMP);
        int[] was = {Coasts.IMP, 1, 0, 50};
        int[] most = {6, 7, 7, 99};
        for (int what = 0; what <= 3; what++) {
            expect.due("change " + what + " below", Expect.BEYOND, x.change(0, what, -1));
            expect.due("change " + what + " above", Expect.BEYOND, x.change(0, what, most[what] + 1));
            expect.due("change " + what + " to most", was[what], x.change(0, what, most[what]));
            expect.due("change " + what + " to 0", most[what], x.change(0, what, 0));
            expect.due("changed " + what, 0, x.of(0, what));
        }
        expect.due("change(0, 4, 0)", Expect.BEYOND, x.change(0, 4, 0));
        expect.due("change(0, -1, 0)", Expect.BEYOND, x.change(0, -1, 0));
        expect.due("change(1, 0, 0)", Expect.BEYOND, x.change(1, 0, 0));
        expect.due("change(-1, 0, 0)", Expect.BEYOND, x.change(-1, 0, 0));
    }

    private static void gift() {
        WrappedHands x = new WrappedHands();
        expect.due("gift for nobody", Expect.BEYOND, x.gift(1, 0, 0));
        x.person(0);
        expect.due("gift(0, 0, 0)", Expect.BEYOND, x.gift(0, 0, 0));
        expect.due("gift(51, 0, 0)", Expect.BEYOND, x.gift(51, 0, 0));
        expect.due("gift(1, -1, 0)", Expect.BEYOND, x.gift(1, -1, 0));
        expect.due("gift(1, 100, 0)", Expect.BEYOND, x.gift(1, 100, 0));
        expect.due("gift(1, 0, 1)", Expect.BEYOND, x.gift(1, 0, 1));
        expect.due("gift(1, 0, -1)", Expect.BEYOND, x.gift(1, 0, -1));
        for (int g = 0; g < 5; g++) {
            expect.due("gift " + g, g, x.gift(g == 0 ? 1 : 50, g == 0 ? 0 : 99, 0));
        }
        expect.due("a 6th", Expect.FULL, x.gift(1, 0, 0));
        expect.due("BEYOND is asked first", Expect.BEYOND, x.gift(1, 0, 1));
        expect.due("gifts", 5, x.count(2));
    }

    private static void giftOf() {
        WrappedHands x = Coasts.of(Coasts.HAND, Coasts.KEEPING);
        x.rule(1, 3);
        x.gift(48, 60, 0);
        int[] first = {48, 60, 0, 0, 0, 48};
        for (int what = 0; what <= 5; what++) {
            expect.due("giftOf(0, " + what + ")", first[what], x.giftOf(0, what));
        }
        expect.due("giftOf(0, 6)", Expect.BEYOND, x.giftOf(0, 6));
        expect.due("giftOf(0, -1)", Expect.BEYOND, x.giftOf(0, -1));
        expect.due("giftOf(1, 0)", Expect.BEYOND, x.giftOf(1, 0));
        expect.due("giftOf(-1, 0)", Expect.BEYOND, x.giftOf(-1, 0));
        x.days(2);
        int[] kept = {48, 60, 1, 1, 1, 51};
        for (int what = 0; what <= 5; what++) {
            expect.due("KEPT: giftOf(0, " + what + ")", kept[what], x.giftOf(0, what));
        }
    }

    private static void layer() {
        WrappedHands x = Coasts.hands(3);
        x.change(0, 2, 7);
        x.change(1, 2, 5);
        x.gift(1, 1, 0);
        expect.due("no layer", Expect.NONE, x.layer(0, 0, 0));
        x.days(2);
        expect.due("inmost NAME", 7, x.layer(0, 0, 0));
        expect.due("inmost HAND", 0, x.layer(0, 0, 1));
        expect.due("outmost NAME", 5, x.layer(0, 1, 0));
        expect.due("outmost HAND", 1, x.layer(0, 1, 1));
        expect.due("layer(0, 2, 0)", Expect.NONE, x.layer(0, 2, 0));
        expect.due("layer(0, 11, 1)", Expect.NONE, x.layer(0, 11, 1));
        expect.due("layer(0, 12, 0)", Expect.BEYOND, x.layer(0, 12, 0));
        expect.due("layer(0, -1, 0)", Expect.BEYOND, x.layer(0, -1, 0));
        expect.due("layer(0, 0, 2)", Expect.BEYOND, x.layer(0, 0, 2));
        expect.due("layer(0, 11, -1)", Expect.BEYOND, x.layer(0, 11, -1));
        expect.due("layer(1, 0, 0)", Expect.BEYOND, x.layer(1, 0, 0));
        expect.due("layer(-1, 0, 0)", Expect.BEYOND, x.layer(-1, 0, 0));
    }

    private static void rule() {
        WrappedHands x = new WrappedHands();
        expect.due("rule(0, 20)", 9, x.rule(0, 20));
        expect.due("rule(0, 1)", 20, x.rule(0, 1));
        expect.due("rule(0, 0)", Expect.BEYOND, x.rule(0, 0));
        expect.due("rule(0, 21)", Expect.BEYOND, x.rule(0, 21));
        expect.due("rule(1, 9)", 1, x.rule(1, 9));
        expect.due("rule(1, 0)", 9, x.rule(1, 0));
        expect.due("rule(1, -1)", Expect.BEYOND, x.rule(1, -1));
        expect.due("rule(1, 10)", Expect.BEYOND, x.rule(1, 10));
        expect.due("rule(2, 5)", Expect.BEYOND, x.rule(2, 5));
        expect.due("rule(-1, 5)", Expect.BEYOND, x.rule(-1, 5));
        expect.due("LAW", 1, x.now(4));
        expect.due("PAPER", 0, x.now(5));
    }

    private static void send() {
        WrappedHands x = Coasts.of(Coasts.HAND, Coasts.HAND, Coasts.KEEPING);
        x.gift(50, 0, 0);
        x.gift(1, 0, 0);
        x.gift(1, 0, 0);
        x.skin(1, 2);
        expect.due("send(0, 2)", 0, x.send(0, 2));
        expect.due("send(0, 1)", 2, x.send(0, 1));
        expect.due("send to who has it", 1, x.send(0, 1));
        expect.due("where it is", 1, x.giftOf(0, 2));
        expect.due("no layer is laid", 0, x.giftOf(0, 4));
        expect.due("send(0, 3)", Expect.BEYOND, x.send(0, 3));
        expect.due("send(0, -1)", Expect.BEYOND, x.send(0, -1));
        expect.due("send(3, 0)", Expect.BEYOND, x.send(3, 0));
        expect.due("send(-1, 0)", Expect.BEYOND, x.send(-1, 0));
        expect.due("send what is WITHIN", Expect.STATE, x.send(1, 0));
        expect.due("BEYOND is asked before STATE", Expect.BEYOND, x.send(1, 3));
        x.send(0, 2);
        x.days(1);
        expect.due("send what is KEPT", Expect.STATE, x.send(0, 0));
        expect.due("still KEPT by 2", 2, x.giftOf(0, 2));
    }

    private static void open() {
        WrappedHands x = Coasts.of(Coasts.HAND, Coasts.HAND, Coasts.KEEPING);
        x.change(0, 2, 6);
        x.change(1, 2, 5);
        x.gift(49, 0, 0);
        expect.due("open without layers", Expect.NONE, x.open(0));
        x.days(2);
        expect.due("open the outmost", 5, x.open(0));
        expect.due("layers then", 1, x.giftOf(0, 4));
        expect.due("no such layer more", Expect.NONE, x.layer(0, 1, 0));
        expect.due("open the inmost", 6, x.open(0));
        expect.due("open none", Expect.NONE, x.open(0));
        expect.due("open(1)", Expect.BEYOND, x.open(1));
        expect.due("open(-1)", Expect.BEYOND, x.open(-1));
        x.rule(1, 9);
        x.send(0, 1);
        x.days(2);
        expect.due("it is KEPT", 1, x.giftOf(0, 3));
        expect.due("open what is KEPT", Expect.STATE, x.open(0));
        x.gift(1, 0, 0);
        x.gift(1, 0, 0);
        x.skin(1, 2);
        expect.due("open what is WITHIN", Expect.STATE, x.open(1));
    }

    private static void skin() {
        WrappedHands x = Coasts.of(Coasts.HAND, Coasts.HAND);
        x.gift(3, 0, 0);
        x.gift(10, 0, 0);
        x.gift(20, 0, 1);
        expect.due("one and the same", Expect.BEYOND, x.skin(0, 0));
        expect.due("skin(3, 0)", Expect.BEYOND, x.skin(3, 0));
        expect.due("skin(0, 3)", Expect.BEYOND, x.skin(0, 3));
        expect.due("skin(-1, 0)", Expect.BEYOND, x.skin(-1, 0));
        expect.due("skin(0, -1)", Expect.BEYOND, x.skin(0, -1));
        expect.due("in two HANDS", Expect.STATE, x.skin(0, 2));
        x.days(1);
        x.send(1, 0);
        x.send(0, 0);
        x.open(1);
        expect.due("the inner has layers", Expect.STATE, x.skin(0, 1));
        expect.due("the outer has layers", Expect.STATE, x.skin(1, 0));
        x.open(0);
        expect.due("skin(0, 1)", 13, x.skin(0, 1));
        expect.due("WITHIN: nobody's", -1, x.giftOf(0, 2));
        expect.due("WITHIN: how", 2, x.giftOf(0, 3));
        expect.due("WITHIN: weight of its own", 3, x.giftOf(0, 5));
        expect.due("the outer WEIGHS", 13, x.giftOf(1, 5));
        expect.due("the outer's own WEIGHT", 10, x.giftOf(1, 0));
        expect.due("a second time", Expect.STATE, x.skin(0, 1));
        expect.due("the other way round", Expect.STATE, x.skin(1, 0));
    }

    private static void skinOfKeptOnes() {
        WrappedHands x = Coasts.of(Coasts.KEEPING);
        x.gift(50, 0, 0);
        x.days(1);
        x.gift(3, 0, 0);
        expect.due("KEPT by who has the other", 1, x.giftOf(0, 3));
        expect.due("a KEPT one WITHIN it", Expect.STATE, x.skin(0, 1));
        expect.due("it WITHIN a KEPT one", Expect.STATE, x.skin(1, 0));
        expect.due("it is in a HAND still", 0, x.giftOf(1, 3));
    }

    private static void skinOfSkins() {
        WrappedHands x = Coasts.of(Coasts.KEEPING);
        for (int g = 0; g < 5; g++) {
            x.gift(1 << g, 0, 0);
        }
        expect.due("0 in 1", 3, x.skin(0, 1));
        expect.due("1 in 2", 7, x.skin(1, 2));
        expect.due("3 in 4", 24, x.skin(3, 4));
        expect.due("2 in 4", 31, x.skin(2, 4));
        x.change(0, 3, 31);
        expect.due("what lies in it makes it worth keeping", 1, x.days(1));
        expect.due("KEPT", 0b10000, x.now(2));
        expect.due("in a HAND", 0, x.now(1));
        expect.due("in KEPT ones", Expect.STATE, x.skin(4, 3));
    }
}
