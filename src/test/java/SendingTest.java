/** Promises 21 to 30: whom to send a gift to, and what would change its fate. */
public final class SendingTest {
    private static final Expect expect = new Expect("SendingTest");

    public static void main(String[] args) {
        wrongInputs();
        notInAHand();
        sendersAndFates();
        roundsDontCount();
        wish();
        theLastNumber();
        turn();
        ends();
        endsByTheFirst();
        law();
        rounds();
        kindFor();
        hopes();
        missed();
        missedByTheirOwnGifts();
        missedByTheBlind();
        expect.close();
    }

    private static void wrongInputs() {
        WrappedHands x = Coasts.ringToTwo();
        for (int wild : new int[] {-1, 1, 5, Integer.MAX_VALUE, Integer.MIN_VALUE}) {
            expect.due("senders(" + wild + ", 0)", Expect.BEYOND, x.senders(wild, 0));
            expect.due("fates(" + wild + ")", Expect.BEYOND, x.fates(wild));
            expect.due("wish(" + wild + ", 0)", Expect.BEYOND, x.wish(wild, 0));
            expect.due("turn(0, " + wild + ", 0)", Expect.BEYOND, x.turn(0, wild, 0));
            expect.due("ends(" + wild + ")", Expect.BEYOND, x.ends(wild));
            expect.due("law(" + wild + ")", Expect.BEYOND, x.law(wild));
        }
        for (int wild : new int[] {-1, 3, 8, Integer.MAX_VALUE, Integer.MIN_VALUE}) {
            expect.due("senders(0, " + wild + ")", Expect.BEYOND, x.senders(0, wild));
            expect.due("wish(0, " + wild + ")", Expect.BEYOND, x.wish(0, wild));
            expect.due("turn(" + wild + ", 0, 0)", Expect.BEYOND, x.turn(wild, 0, 0));
            expect.due("turn(0, 0, " + wild + ")", Expect.BEYOND, x.turn(0, 0, wild));
            expect.due("kindFor(" + wild + ")", Expect.BEYOND, x.kindFor(wild));
            expect.due("hopes(" + wild + ")", Expect.BEYOND, x.hopes(wild));
        }
    }

    private static void notInAHand() {
        WrappedHands x = Coasts.ringToTwo();
        x.gift(1, 0, 0);
        x.skin(1, 0);
        x.days(3);
        for (int g = 0; g <= 1; g++) {
            expect.due("senders(" + g + ", 0)", Expect.STATE, x.senders(g, 0));
            expect.due("fates(" + g + ")", Expect.STATE, x.fates(g));
            expect.due("wish(" + g + ", 0)", Expect.STATE, x.wish(g, 0));
            expect.due("turn(0, " + g + ", 0)", Expect.STATE, x.turn(0, g, 0));
            expect.due("ends(" + g + ")", Expect.STATE, x.ends(g));
            expect.due("law(" + g + ")", Expect.STATE, x.law(g));
            expect.due("BEYOND is asked before STATE", Expect.BEYOND, x.senders(g, 3));
            expect.due("in wish, too", Expect.BEYOND, x.wish(g, 3));
            expect.due("in turn, too", Expect.BEYOND, x.turn(0, g, 3));
        }
        expect.due("rounds", 0, x.rounds());
        expect.due("hopes of KEPT ones", 0, x.hopes(2));
    }

    private static void sendersAndFates() {
        WrappedHands x = Coasts.ringToTwo();
        // From 1 and 2 it gets the name 0 on the inside.
        expect.due("senders(0, 0)", 0b110, x.senders(0, 0));
        expect.due("senders(0, 1)", 0, x.senders(0, 1));
        expect.due("senders(0, 2)", 0b001, x.senders(0, 2));
        expect.due("fates(0)", 0b101, x.fates(0));
        expect.due("it is where it was", 0, x.giftOf(0, 2));
        x.days(1);
        expect.due("with a name on it: senders(0, 2)", 0b111, x.senders(0, 2));
        expect.due("with a name on it: fates(0)", 0b100, x.fates(0));
    }

    private static void roundsDontCount() {
        WrappedHands x = Coasts.of(Coasts.HAND, Coasts.HAND, Coasts.KEEPING);
        x.rule(0, 20);
        x.change(0, 1, 0);
        x.change(0, 2, 7);
        x.change(2, 3, 5);
        x.gift(5, 0, 0);
        expect.due("0 keeps it going", 0b110, x.senders(0, 2));
        expect.due("just one fate", 0b100, x.fates(0));
        expect.due("none leads to 0", 0, x.senders(0, 0));
    }

    private static void wish() {
        WrappedHands x = Coasts.ringToTwo();
        x.person(Coasts.HAND);
        // Names of nobody in the ring bring it to 0 by the law, as the name 0 does.
        expect.due("wish(0, 0)", 0, x.wish(0, 0));
        expect.due("wish(0, 1)", 1, x.wish(0, 1));
        expect.due("wish(0, 2)", 2, x.wish(0, 2));
        expect.due("wish(0, 3)", Expect.NONE, x.wish(0, 3));
        expect.due("the WISH stays", 2, x.of(0, 2));
        x.rule(0, 4);
        expect.due("a law of 4 comes before 0's name", 0, x.wish(0, 0));
        x.rule(0, 2);
        expect.due("a law of 2 brings it to 2", 0, x.wish(0, 2));
        expect.due("and never to 0", Expect.NONE, x.wish(0, 0));
        x.rule(0, 9);
        x.change(0, 0, Coasts.CHILD);
        expect.due("a CHILD's wish does nothing", 0, x.wish(0, 0));
        expect.due("for nobody else", Expect.NONE, x.wish(0, 2));
    }

    /** All eight there; the last number is the only one that does. */
    private static void theLastNumber() {
        WrappedHands x = Coasts.hands(8);
        x.gift(1, 0, 0);
        expect.due("wish(0, 7)", 7, x.wish(0, 7));
        x.change(7, 0, Coasts.KEEPING);
        x.change(7, 3, 0);
        x.change(1, 1, 0);
        x.change(6, 1, 0);
        expect.due("turn(0, 0, 7)", 7, x.turn(0, 0, 7));
        x.rule(0, 20);
        x.change(0, 2, 5);
        expect.due("ends(0)", 2, x.ends(0));
    }

    private static void turn() {
        WrappedHands x = Coasts.ringToTwo();
        expect.due("turn(0, 0, 0)", 0, x.turn(0, 0, 0));
        expect.due("turn(0, 0, 1)", Expect.NONE, x.turn(0, 0, 1));
        expect.due("turn(0, 0, 2)", 1, x.turn(0, 0, 2));
        expect.due("turn(1, 0, 0)", Expect.NONE, x.turn(1, 0, 0));
        expect.due("turn(1, 0, 1)", 0, x.turn(1, 0, 1));
        expect.due("turn(1, 0, 2)", 2, x.turn(1, 0, 2));
        expect.due("turn(2, 0, 2)", 0, x.turn(2, 0, 2));
        expect.due("NEXT of 0 stays", 1, x.of(0, 1));
        expect.due("NEXT of 1 stays", 2, x.of(1, 1));
        WrappedHands y = Coasts.of(Coasts.HAND, Coasts.HAND);
        y.change(0, 1, 1);
        y.change(1, 1, 0);
        y.change(0, 2, 7);
        y.rule(0, 2);
        y.gift(1, 0, 0);
        // 1 needs to hold on to it: by its own number, or by that of one who isn't there.
        expect.due("one's own number", 1, y.turn(1, 0, 1));
        y.change(1, 0, Coasts.BLIND);
        y.change(0, 1, 1);
        expect.due("BLIND: next of 0 is oneself", 0, y.turn(1, 0, 1));
    }

    private static void ends() {
        WrappedHands x = Coasts.of(Coasts.HAND, Coasts.HAND, Coasts.KEEPING);
        x.rule(0, 20);
        x.change(0, 1, 0);
        x.change(1, 1, 1);
        x.change(0, 2, 7);
        x.change(1, 2, 7);
        x.change(2, 3, 60);
        x.gift(40, 0, 1);
        expect.due("no one keeps 40 at 60", Expect.NONE, x.ends(0));
        x.change(2, 3, 40);
        expect.due("1 turned to 2", 12, x.ends(0));
        expect.due("NEXT of 1 stays", 1, x.of(1, 1));
        x.send(0, 0);
        expect.due("0 turned to 2", 2, x.ends(0));
        x.rule(0, 12);
        expect.due("no round", Expect.STATE, x.ends(0));
    }

    private static void endsByTheFirst() {
        WrappedHands x = Coasts.of(Coasts.HAND, Coasts.HAND, Coasts.KEEPING, Coasts.KEEPING);
        x.rule(0, 20);
        x.change(1, 1, 0);
        x.change(0, 2, 7);
        x.change(1, 2, 7);
        x.change(2, 3, 30);
        x.change(3, 3, 30);
        x.gift(40, 0, 1);
        expect.due("of 02, 03, 12, 13", 2, x.ends(0));
        x.change(0, 0, Coasts.KEEPING);
        x.change(0, 3, 0);
        x.change(1, 1, 1);
        expect.due("1 turned to 0", 10, x.ends(0));
    }

    private static void law() {
        WrappedHands x = Coasts.ringToTwo();
        expect.due("law of 1 gives it to 1", 1, x.law(0));
        expect.due("LAW stays", 9, x.now(4));
        x.change(0, 2, 1);
        expect.due("no law takes it from 1", Expect.NONE, x.law(0));
        x.change(0, 2, 7);
        x.rule(0, 1);
        expect.due("law of 2 gives it to 2", 2, x.law(0));
        WrappedHands y = Coasts.of(Coasts.HAND);
        y.change(0, 2, 7);
        y.gift(1, 0, 0);
        expect.due("13 never come: none", 13, y.law(0));
        y.rule(0, 13);
        expect.due("from a round to one", 1, y.law(0));
        y.change(0, 0, Coasts.CHILD);
        expect.due("a CHILD keeps its own", Expect.NONE, y.law(0));
    }

    private static void rounds() {
        WrappedHands x = Coasts.of(Coasts.HAND, Coasts.HAND);
        expect.due("none at first", 0, x.rounds());
        x.rule(0, 13);
        x.change(0, 2, 7);
        x.gift(1, 0, 0);
        x.gift(1, 0, 0);
        x.gift(1, 0, 1);
        x.gift(1, 0, 0);
        x.gift(1, 0, 0);
        x.change(0, 1, 0);
        x.change(1, 1, 1);
        expect.due("all five, 0's name is not met by 1", 5, x.rounds());
        x.change(1, 2, 1);
        expect.due("1 meets the own name", 4, x.rounds());
        x.skin(3, 4);
        expect.due("not those WITHIN", 3, x.rounds());
        x.rule(0, 12);
        expect.due("12 layers come", 0, x.rounds());
    }

    private static void kindFor() {
        WrappedHands x = Coasts.ring(Coasts.IMP, Coasts.HAND);
        expect.due("no gifts: of all the least", 0, x.kindFor(0));
        x.change(0, 2, 7);
        x.change(1, 2, 7);
        x.change(0, 3, 99);
        x.gift(10, 30, 0);
        expect.due("BLIND: it stays till the law", 2, x.kindFor(0));
        x.change(0, 3, 10);
        expect.due("KEEPING at once", 1, x.kindFor(0));
        expect.due("its KIND stays", Coasts.IMP, x.of(0, 0));
        x.change(0, 0, Coasts.BLIND);
        expect.due("as one who is BLIND now", 1, x.kindFor(0));
        expect.due("and stays so", Coasts.BLIND, x.of(0, 0));
        x.gift(10, 40, 1);
        expect.due("both as KEEPING", 1, x.kindFor(0));
        WrappedHands y = Coasts.hands(3);
        for (int p = 0; p < 3; p++) {
            y.change(p, 2, 7);
        }
        y.rule(0, 11);
        y.change(0, 3, 99);
        y.gift(10, 30, 0);
        expect.due("IN LAW: to a name that isn't there", 3, y.kindFor(0));
    }

    private static void hopes() {
        WrappedHands x = Coasts.ringToTwo();
        x.gift(1, 20, 0);
        x.gift(1, 40, 1);
        x.gift(1, 7, 1);
        x.gift(1, 5, 1);
        x.skin(3, 4);
        expect.due("hopes of 0", 45, x.hopes(0));
        expect.due("hopes of 1", 0, x.hopes(1));
        expect.due("hopes of 2", 30, x.hopes(2));
        x.days(3);
        expect.due("KEPT ones aren't hoped for", 0, x.hopes(2));
        x.rule(0, 20);
        x.gift(1, 9, 2);
        expect.due("FULL by now", 5, x.count(2));
    }

    private static void missed() {
        WrappedHands x = new WrappedHands();
        expect.due("nobody", Expect.NONE, x.missed());
        x.person(0);
        x.person(0);
        expect.due("no gifts", 0, x.missed());
        WrappedHands y = Coasts.ringToTwo();
        // Without 1 it stays with 0, without 2 it stays with 1, each till the law.
        expect.due("the least of 1 and 2", 1, y.missed());
        y.change(1, 2, 2);
        y.gift(1, 0, 1);
        expect.due("2 for both", 2, y.missed());
        expect.due("nothing has changed", 2, y.fate(0));
    }

    private static void missedByTheirOwnGifts() {
        WrappedHands x = Coasts.hands(2);
        x.change(0, 2, 1);
        x.change(1, 2, 1);
        x.gift(1, 0, 0);
        x.gift(1, 0, 0);
        x.gift(1, 0, 1);
        // 1's own gift goes to 0 and has to come back to 1; 0 could not get it.
        expect.due("1 for all of 0's", 1, x.missed());
        WrappedHands y = Coasts.of(Coasts.HAND, Coasts.HAND);
        y.rule(0, 20);
        y.change(0, 2, 7);
        y.change(0, 1, 0);
        y.change(1, 2, 7);
        y.change(1, 1, 0);
        y.gift(1, 0, 1);
        expect.due("a round stays one", 0, y.missed());
        y.change(0, 0, Coasts.KEEPING);
        y.change(0, 3, 0);
        y.person(Coasts.HAND);
        expect.due("a fate can become a round", 0, y.missed());
        y.change(0, 0, Coasts.HAND);
        y.change(2, 0, Coasts.KEEPING);
        y.change(2, 3, 0);
        y.change(0, 1, 2);
        y.send(0, 0);
        expect.due("2 alone is missed", 2, y.missed());
    }

    private static void missedByTheBlind() {
        WrappedHands x = Coasts.of(Coasts.BLIND, Coasts.HAND, Coasts.HAND);
        x.gift(1, 0, 0);
        // Without 1, the NEXT of 0, it stays with 0; 0 doesn't see past 1 to 2.
        expect.due("1, the NEXT of the BLIND one", 1, x.missed());
        expect.due("with 1 there it comes to 2", 2, x.fate(0));
        expect.due("and is handed on to 2", 2, x.hands(0, 0));
        x.change(0, 0, Coasts.FORGING);
        expect.due("FORGING as BLIND", 1, x.missed());
        x.change(0, 0, Coasts.HAND);
        x.change(0, 1, 2);
        expect.due("a HAND looks at its NEXT alone", 2, x.missed());
        x.change(0, 0, Coasts.BLIND);
        expect.due("2, whose NEXT isn't there, is the NEXT", 0, x.missed());
        x.change(2, 1, 1);
        x.change(1, 1, 1);
        expect.due("1 and 2 again", 1, x.missed());
        x.send(0, 2);
        x.change(2, 0, Coasts.BLIND);
        x.change(2, 1, 0);
        x.change(0, 1, 1);
        expect.due("0, past whom 2 hands on to 1", 0, x.missed());
        blindOnesHandOnToNobodyElse();
    }

    private static void blindOnesHandOnToNobodyElse() {
        WrappedHands x = Coasts.of(
                Coasts.BLIND, Coasts.IN_LAW, Coasts.HAND, Coasts.HAND, Coasts.HAND);
        x.change(0, 2, 3);
        x.change(4, 2, 3);
        x.change(4, 1, 2);
        x.gift(1, 0, 0);
        x.gift(1, 0, 4);
        // Without 2 gift 0 stays with 0: NEXT is there, so it isn't handed on to NEXT.
        expect.due("2 for both gifts", 2, x.missed());
    }
}
