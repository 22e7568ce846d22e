/** README.md shows this program and what it prints; ReadmeTest holds the two against each other. */
public final class Example {
    public static void main(String[] args) {
        WrappedHands coast = new WrappedHands();
        int giver = coast.person(0);            // 0: a HAND, hands on to 1
        int blind = coast.person(2);            // 1: a BLIND one, hands on to the NEXT of 2
        int child = coast.person(5);            // 2: a CHILD
        int keeper = coast.person(1);           // 3: a KEEPING one
        coast.change(giver, 2, child);          // the giver's WISH: the child
        coast.change(child, 1, giver);          // the child's NEXT: the giver
        int gift = coast.gift(5, 20, giver);    // WEIGHT 5, WORTH 20, in the giver's HAND

        tell("whom the blind one would hand it on to", coast.hands(blind, gift));
        tell("by whom it will be kept", coast.fate(gift));
        int next = coast.turn(child, gift, child);
        tell("the child's next with which it comes to the child", next);
        coast.change(child, 1, next);
        tell("then it is kept behind so many days", coast.when(gift));
        tell("having come into these hands (a set: 0, 1 and 2)", coast.seen(gift));
        tell("the keeping one's greed that was", coast.change(keeper, 3, 5));
        tell("hands from which the keeping one gets it (3 alone)", coast.senders(gift, keeper));

        coast.image();
        tell("gifts kept in two days", coast.days(2));
        tell("layers on it", coast.giftOf(gift, 4));
        tell("the name on the inmost", coast.layer(gift, 0, 0));
        tell("who can have laid that one (0 and 2)", coast.writers(gift, 0));
        tell("the day after undo()", coast.undo());

        tell("items of a text", read(coast, "forging next 0 wish 3; gift 9 worth 40 with 4; law 4"));
        tell("a text with a fault at byte 14", read(coast, "hand; gift 10 wish 3"));
        tell("sent to one who isn't there", coast.send(gift, 7));
        tell("findings so far", coast.status(-1));
    }

    private static int read(WrappedHands coast, String text) {
        for (int i = 0; i < text.length(); i++) {
            coast.feed(text.charAt(i), 1);
        }
        return coast.text();
    }

    private static void tell(String what, long answer) {
        System.out.println(what + ": " + answer);
    }
}
