/** Promises 15 to 20: days, and what they bring. */
public final class DaysTest {
    private static final Expect expect = new Expect("DaysTest");

    public static void main(String[] args) {
        daysInARing();
        nobodyThere();
        lastDay();
        fullGiftGoesOn();
        readBeforeOnesOwnLayer();
        now();
        ahead();
        fateAndWhen();
        roundsHaveNoFate();
        seen();
        expect.close();
    }

    private static void daysInARing() {
        WrappedHands x = Coasts.ringToTwo();
        expect.due("days(0)", Expect.BEYOND, x.days(0));
        expect.due("days(61)", Expect.BEYOND, x.days(61));
        expect.due("days(-1)", Expect.BEYOND, x.days(-1));
        expect.due("day 1", 0, x.days(1));
        expect.due("in the HAND of 1", 1, x.giftOf(0, 2));
        expect.due("one layer", 1, x.giftOf(0, 4));
        expect.due("day 2", 0, x.days(1));
        expect.due("in the HAND of 2", 2, x.giftOf(0, 2));
        expect.due("day 3", 1, x.days(1));
        expect.due("KEPT by 2", 2, x.giftOf(0, 2));
        expect.due("no layer of who keeps", 2, x.giftOf(0, 4));
        expect.due("no more days for it", 0, x.days(60));
        expect.due("layers stay", 2, x.giftOf(0, 4));
        expect.due("DAY", 63, x.now(0));
        WrappedHands y = Coasts.ringToTwo();
        y.gift(5, 1, 0);
        expect.due("two KEPT in one go", 2, y.days(60));
    }

    private static void nobodyThere() {
        WrappedHands x = Coasts.of(Coasts.HAND);
        x.change(0, 2, 4);
        x.gift(1, 0, 0);
        expect.due("a day", 0, x.days(1));
        expect.due("it stays", 0, x.giftOf(0, 2));
        expect.due("but has a layer", 1, x.giftOf(0, 4));
        expect.due("till the law", 1, x.days(9));
        expect.due("KEPT by 0", 0b1, x.of(0, 5));
        expect.due("with 9 layers", 9, x.giftOf(0, 4));
    }

    private static void lastDay() {
        WrappedHands x = new WrappedHands();
        for (int i = 0; i < 166; i++) {
            x.days(60);
        }
        expect.due("DAY 9960", 9960, x.now(0));
        expect.due("days(40)", Expect.STATE, x.days(40));
        expect.due("BEYOND is asked first", Expect.BEYOND, x.days(61));
        expect.due("ahead(40, 0)", Expect.STATE, x.ahead(40, 0));
        expect.due("ahead(39, 0)", 0, x.ahead(39, 0));
        expect.due("ahead(61, 0)", Expect.BEYOND, x.ahead(61, 0));
        expect.due("days(39)", 0, x.days(39));
        expect.due("DAY 9999", 9999, x.now(0));
        expect.due("days(1)", Expect.STATE, x.days(1));
        expect.due("ahead(1, 1)", Expect.STATE, x.ahead(1, 1));
        expect.due("ahead(0, 1)", 0, x.ahead(0, 1));
        x.person(Coasts.KEEPING);
        x.gift(50, 0, 0);
        expect.due("FATE asks for no DAY", 0, x.fate(0));
        expect.due("when neither", 1, x.when(0));
        expect.due("DAY is as it was", 9999, x.now(0));
    }

    private static void fullGiftGoesOn() {
        WrappedHands x = Coasts.hands(3);
        x.change(0, 2, 7);
        x.rule(0, 20);
        x.gift(1, 0, 0);
        x.days(13);
        expect.due("no 13th layer", 12, x.giftOf(0, 4));
        expect.due("but it goes on", 1, x.giftOf(0, 2));
        x.days(1);
        expect.due("and on", 2, x.giftOf(0, 2));
        expect.due("the outmost stays 2's", 2, x.layer(0, 11, 1));
    }

    /** IN LAW and IMP look at the outmost layer below their own. */
    private static void readBeforeOnesOwnLayer() {
        WrappedHands x = Coasts.of(Coasts.HAND, Coasts.IN_LAW, Coasts.IMP, Coasts.HAND);
        x.change(0, 2, 3);
        x.change(1, 2, 2);
        x.gift(1, 0, 0);
        x.days(2);
        expect.due("IN LAW handed on to the NAME 3", 3, x.giftOf(0, 2));
        expect.due("having written 2", 2, x.layer(0, 1, 0));
        x.send(0, 2);
        x.days(1);
        expect.due("IMP handed back to 1", 1, x.giftOf(0, 2));
        expect.due("having written 2", 2, x.layer(0, 2, 0));
        expect.due("laid by 2", 2, x.layer(0, 2, 1));
        WrappedHands y = Coasts.of(Coasts.FORGING, Coasts.HAND, Coasts.FORGING);
        y.change(0, 2, 5);
        y.gift(1, 0, 0);
        y.days(1);
        expect.due("FORGING wrote the WISH", 5, y.layer(0, 0, 0));
        expect.due("and handed on past 1", 2, y.giftOf(0, 2));
        y.days(1);
        expect.due("FORGING wrote on from it", 5, y.layer(0, 1, 0));
    }

    private static void now() {
        WrappedHands x = Coasts.of(Coasts.HAND, Coasts.KEEPING);
        x.gift(50, 7, 1);
        x.gift(1, 20, 0);
        x.gift(50, 30, 1);
        x.gift(1, 40, 1);
        x.skin(3, 2);
        x.rule(0, 12);
        x.rule(1, 4);
        int[] before = {0, 0b0111, 0, 0, 12, 4, 0};
        for (int what = 0; what <= 6; what++) {
            expect.due("before: now(" + what + ")", before[what], x.now(what));
        }
        x.days(1);
        // What is WITHIN a KEPT one is not KEPT itself.
        int[] after = {1, 0b0010, 0b0101, 1, 12, 4, 37};
        for (int what = 0; what <= 6; what++) {
            expect.due("after: now(" + what + ")", after[what], x.now(what));
        }
        expect.due("now(7)", Expect.BEYOND, x.now(7));
        expect.due("now(-1)", Expect.BEYOND, x.now(-1));
    }

    private static void ahead() {
        WrappedHands x = Coasts.ringToTwo();
        x.gift(1, 0, 1);
        x.gift(1, 0, 1);
        x.skin(1, 2);
        int[] holders = {0, 1, 2, 2, 2};
        int[] others = {1, 2, 0, 0, 0};
        int[] layers = {0, 2, 4, 4, 4};
        for (int n = 0; n <= 4; n++) {
            expect.due("KEPT in " + n, n < 3 ? 0 : 0b101, x.ahead(n, 0));
            expect.due("layers in " + n, layers[n], x.ahead(n, 1));
            expect.due("gift 0 in " + n, holders[n], x.ahead(n, 2));
            expect.due("WITHIN in " + n, -1, x.ahead(n, 3));
            expect.due("gift 2 in " + n, others[n], x.ahead(n, 4));
        }
        expect.due("all KEPT in 60", 0b101, x.ahead(60, 0));
        expect.due("ahead(61, 0)", Expect.BEYOND, x.ahead(61, 0));
        expect.due("ahead(-1, 0)", Expect.BEYOND, x.ahead(-1, 0));
        expect.due("ahead(0, -1)", Expect.BEYOND, x.ahead(0, -1));
        expect.due("ahead(0, 5)", Expect.BEYOND, x.ahead(0, 5));
        expect.due("ahead(0, most)", Expect.BEYOND, x.ahead(0, Integer.MAX_VALUE));
        expect.due("nothing has gone", 0, x.now(0));
        expect.due("no layer was laid", 0, x.now(3));
        x.days(3);
        expect.due("KEPT already", 0b101, x.ahead(0, 0));
        expect.due("in whose", 2, x.ahead(9, 2));
    }

    private static void fateAndWhen() {
        WrappedHands x = Coasts.ringToTwo();
        expect.due("fate", 2, x.fate(0));
        expect.due("when", 3, x.when(0));
        x.days(1);
        expect.due("fate a day on", 2, x.fate(0));
        expect.due("when a day on", 2, x.when(0));
        expect.due("one layer still", 1, x.now(3));
        for (int wild : new int[] {-1, 1, 5, Integer.MAX_VALUE}) {
            expect.due("fate(" + wild + ")", Expect.BEYOND, x.fate(wild));
            expect.due("when(" + wild + ")", Expect.BEYOND, x.when(wild));
            expect.due("seen(" + wild + ")", Expect.BEYOND, x.seen(wild));
        }
        x.days(2);
        expect.due("fate of a KEPT one", Expect.STATE, x.fate(0));
        expect.due("when of a KEPT one", Expect.STATE, x.when(0));
        expect.due("seen of a KEPT one", Expect.STATE, x.seen(0));
        x.gift(1, 0, 0);
        x.gift(1, 0, 0);
        x.skin(1, 2);
        expect.due("fate of one WITHIN", Expect.STATE, x.fate(1));
        expect.due("when of one WITHIN", Expect.STATE, x.when(1));
        expect.due("seen of one WITHIN", Expect.STATE, x.seen(1));
        WrappedHands y = Coasts.of(Coasts.KEEPING);
        y.gift(50, 0, 0);
        expect.due("kept on the first day", 1, y.when(0));
    }

    private static void roundsHaveNoFate() {
        WrappedHands x = Coasts.ringToTwo();
        x.change(0, 2, 7);
        x.rule(0, 13);
        expect.due("fate of a round", Expect.NONE, x.fate(0));
        expect.due("when of a round", Expect.NONE, x.when(0));
        x.rule(0, 12);
        expect.due("12 layers do", 0, x.fate(0));
        expect.due("on the 13th day", 13, x.when(0));
        expect.due("found so far", 2, x.status(3));
    }

    private static void seen() {
        WrappedHands x = Coasts.ringToTwo();
        x.person(Coasts.HAND);
        expect.due("all of the way", 0b0111, x.seen(0));
        x.days(1);
        expect.due("from 1 on", 0b0110, x.seen(0));
        x.send(0, 3);
        // 3 hands on to 4, who isn't there, till the law is met: inmost is 2's name.
        expect.due("stays with 3", 0b1000, x.seen(0));
        WrappedHands y = Coasts.hands(8);
        for (int p = 0; p < 8; p++) {
            y.change(p, 0, Coasts.CHILD);
        }
        y.rule(0, 20);
        y.gift(1, 0, 3);
        expect.due("a child's own gift comes back", 3, y.fate(0));
        expect.due("through all hands", 0xff, y.seen(0));
    }
}
