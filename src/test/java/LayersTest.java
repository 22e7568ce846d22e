/** Promises 31 to 36: who wrote a name, weights, draws. */
public final class LayersTest {
    private static final Expect expect = new Expect("LayersTest");

    public static void main(String[] args) {
        writersWaysForged();
        twelveLayers();
        forgedFollowsThePeople();
        guess();
        guessWithWhatIsWithin();
        windByDraws();
        windSparesTheKept();
        seed();
        expect.close();
    }

    /** Layers: name 3 by 0, name 3 by 2 (who forges), name 3 by 3 (a child). */
    private static WrappedHands wrappedByThree() {
        WrappedHands x = Coasts.of(Coasts.HAND, Coasts.HAND, Coasts.FORGING, Coasts.CHILD);
        x.rule(0, 20);
        x.change(0, 2, 3);
        x.change(1, 2, 4);
        x.change(2, 2, 5);
        x.gift(10, 0, 0);
        x.days(1);
        x.send(0, 2);
        x.days(1);
        x.open(0);
        x.send(0, 2);
        x.days(1);
        return x;
    }

    private static void writersWaysForged() {
        WrappedHands x = wrappedByThree();
        expect.due("layers", 2, x.giftOf(0, 4));
        expect.due("inmost: 0 wishes 3, 3 is 3", 0b1001, x.writers(0, 0));
        expect.due("next: 2 forges it, too", 0b1101, x.writers(0, 1));
        expect.due("ways", 6, x.ways(0));
        expect.due("forged", 0, x.forged(0));
        expect.due("no such layer", Expect.NONE, x.writers(0, 2));
        expect.due("writers(0, 11)", Expect.NONE, x.writers(0, 11));
        expect.due("writers(0, 12)", Expect.BEYOND, x.writers(0, 12));
        expect.due("writers(0, -1)", Expect.BEYOND, x.writers(0, -1));
        expect.due("writers(1, 0)", Expect.BEYOND, x.writers(1, 0));
        expect.due("writers(-1, 0)", Expect.BEYOND, x.writers(-1, 0));
        expect.due("ways(1)", Expect.BEYOND, x.ways(1));
        expect.due("ways(-1)", Expect.BEYOND, x.ways(-1));
        expect.due("forged(1)", Expect.BEYOND, x.forged(1));
        expect.due("forged(-1)", Expect.BEYOND, x.forged(-1));
        x.gift(1, 0, 0);
        expect.due("ways without layers", 1, x.ways(1));
        expect.due("forged without layers", 0, x.forged(1));
        expect.due("writers without layers", Expect.NONE, x.writers(1, 0));
    }

    private static void forgedFollowsThePeople() {
        WrappedHands x = wrappedByThree();
        x.change(2, 2, 3);
        expect.due("FORGING writes the WISH inmost", 0b1101, x.writers(0, 0));
        x.change(0, 2, 6);
        expect.due("0 would no more", 0b1100, x.writers(0, 0));
        expect.due("0 laid the inmost", 0b01, x.forged(0));
        x.change(2, 0, Coasts.HAND);
        x.change(2, 2, 7);
        expect.due("nor 2", 0b11, x.forged(0));
        expect.due("just the child", 1, x.ways(0));
        x.change(3, 0, Coasts.IMP);
        expect.due("an IMP as a CHILD", 0b1000, x.writers(0, 1));
        x.change(3, 0, Coasts.HAND);
        expect.due("nobody", 0, x.writers(0, 1));
        expect.due("in no way", 0, x.ways(0));
    }

    private static void twelveLayers() {
        WrappedHands x = Coasts.hands(8);
        x.rule(0, 20);
        for (int p = 0; p < 8; p++) {
            x.change(p, 2, 7);
            x.change(p, 0, p == 7 ? Coasts.HAND : Coasts.FORGING);
        }
        x.change(7, 1, 7);
        x.gift(1, 0, 0);
        x.change(0, 1, 0);
        x.days(14);
        expect.due("12 layers", 12, x.giftOf(0, 4));
        expect.due("8 to the 12th", 1L << 36, x.ways(0));
        expect.due("all could", 0xff, x.writers(0, 11));
        x.change(0, 0, Coasts.CHILD);
        expect.due("all of 0's are forged", 0xfff, x.forged(0));
    }

    private static void guess() {
        WrappedHands x = Coasts.of(Coasts.HAND);
        x.gift(10, 0, 0);
        x.rule(1, 3);
        expect.due("bare", 0, x.guess(0, 10));
        expect.due("one layer", 1, x.guess(0, 13));
        expect.due("12 layers", 12, x.guess(0, 46));
        expect.due("13 layers", Expect.NONE, x.guess(0, 49));
        expect.due("in between", Expect.NONE, x.guess(0, 14));
        expect.due("too light", Expect.NONE, x.guess(0, 7));
        expect.due("guess(0, 0)", Expect.NONE, x.guess(0, 0));
        expect.due("guess(0, 999)", Expect.NONE, x.guess(0, 999));
        expect.due("guess(0, -1)", Expect.BEYOND, x.guess(0, -1));
        expect.due("guess(0, 1000)", Expect.BEYOND, x.guess(0, 1000));
        expect.due("guess(1, 10)", Expect.BEYOND, x.guess(1, 10));
        expect.due("guess(-1, 10)", Expect.BEYOND, x.guess(-1, 10));
        x.days(2);
        expect.due("whatever it has now", 0, x.guess(0, 10));
        x.rule(1, 0);
        expect.due("paper of no weight", 0, x.guess(0, 10));
        expect.due("can't be heavier", Expect.NONE, x.guess(0, 13));
    }

    private static void guessWithWhatIsWithin() {
        WrappedHands x = Coasts.of(Coasts.HAND);
        x.gift(10, 0, 0);
        x.gift(20, 0, 0);
        x.gift(30, 0, 0);
        x.skin(0, 1);
        x.skin(1, 2);
        x.rule(1, 2);
        expect.due("60 and three papers", 3, x.guess(2, 66));
        expect.due("30 alone", Expect.NONE, x.guess(2, 30));
        expect.due("of one WITHIN", 2, x.guess(1, 34));
    }

    /** From z = 1 the draws are 4310654, 9862832, .. */
    private static void windByDraws() {
        WrappedHands x = new WrappedHands();
        expect.due("wind(0)", Expect.BEYOND, x.wind(0));
        expect.due("wind(13)", Expect.BEYOND, x.wind(13));
        expect.due("wind(1) of nothing", Expect.STATE, x.wind(1));
        x.person(0);
        x.person(0);
        x.person(0);
        expect.due("wind(1) without gifts", Expect.STATE, x.wind(1));
        expect.due("no draw was made", 1, x.count(6));
        x.gift(1, 0, 1);
        x.gift(1, 0, 1);
        expect.due("wind(1)", 0, x.wind(1));
        expect.due("z by two draws", -1770082073, x.count(6));
        expect.due("gift by the first", 0, 4310654 % 2);
        expect.due("one by the second", 9862832 % 3, x.giftOf(0, 2));
        expect.due("the other stays", 1, x.giftOf(1, 2));
        x.days(1);
        expect.due("LAYERS of all", 2, x.wind(12));
        expect.due("z by 26 draws", drawn(26), x.count(6));
    }

    private static int drawn(int times) {
        int z = 1;
        for (int i = 0; i < times; i++) {
            z = z * 1103515245 + 12345;
        }
        return z;
    }

    private static void windSparesTheKept() {
        WrappedHands x = Coasts.of(Coasts.KEEPING, Coasts.HAND);
        x.gift(50, 0, 0);
        x.gift(1, 0, 1);
        x.gift(1, 0, 1);
        x.skin(1, 2);
        x.days(1);
        x.wind(12);
        expect.due("KEPT by 0 still", 0, x.giftOf(0, 2));
        expect.due("KEPT still", 1, x.giftOf(0, 3));
        expect.due("WITHIN still", 2, x.giftOf(1, 3));
        expect.due("in nobody's", -1, x.giftOf(1, 2));
        expect.due("the second draw is made anyhow", drawn(24), x.count(6));
    }

    private static void seed() {
        WrappedHands x = new WrappedHands();
        expect.due("seed(v)", 1, x.seed(Integer.MIN_VALUE));
        expect.due("any int", Integer.MIN_VALUE, x.seed(-1000001));
        expect.due("as low as a finding", -1000001, x.count(6));
        expect.due("told again", -1000001, x.seed(5));
        expect.due("but it is none", 0, x.status(-1));
        x.person(0);
        x.gift(1, 0, 0);
        x.seed(-1);
        x.wind(1);
        int first = -1103515245 + 12345;
        expect.due("z wraps around", first * 1103515245 + 12345, x.count(6));
        expect.due("a draw has no sign", 0, x.giftOf(0, 2));
    }
}
