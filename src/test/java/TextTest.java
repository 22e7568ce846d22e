/** Promises 37 to 39: the tape and texts. */
public final class TextTest {
    private static final Expect expect = new Expect("TextTest");

    public static void main(String[] args) {
        feed();
        feedTillFull();
        wipe();
        people();
        traits();
        gifts();
        rules();
        blanks();
        faultsOfNumbers();
        faultsOfWords();
        faultsOfBytes();
        faultsOfEarlyEnds();
        faultsOfTooMany();
        aFaultChangesNothing();
        textsBehindOneAnother();
        fullTape();
        expect.close();
    }

    /** What reading a text on a new object answers. */
    private static void reads(String text, int want) {
        WrappedHands x = new WrappedHands();
        expect.due("text \"" + text + "\"", want, Coasts.read(x, text));
        expect.due("tape behind it", 0, x.count(5));
        expect.due("findings of it", 0, x.status(-1));
    }

    private static void faults(String text, int place) {
        reads(text, -1 - place);
    }

    private static void feed() {
        WrappedHands x = new WrappedHands();
        expect.due("feed(0, 0)", Expect.BEYOND, x.feed(0, 0));
        expect.due("feed(0, 5)", Expect.BEYOND, x.feed(0, 5));
        expect.due("feed(0, -1)", Expect.BEYOND, x.feed(0, -1));
        expect.due("\"law \"", 4, x.feed(0x6c617720, 4));
        expect.due("\"7;\" of four bytes", 6, x.feed(0x7f7f373b, 2));
        expect.due("\"law\" of four bytes", 9, x.feed(0x7f6c6177, 3));
        expect.due("\"8\" of four bytes", 10, x.feed(0x7f7f7f38, 1));
        expect.due("two items", 2, x.text());
        expect.due("LAW", 8, x.now(4));
    }

    private static void feedTillFull() {
        WrappedHands x = new WrappedHands();
        for (int i = 1; i <= 29; i++) {
            expect.due("feed", 4 * i, x.feed(0, 4));
        }
        expect.due("118", 118, x.feed(0, 2));
        expect.due("three more", Expect.FULL, x.feed(0, 3));
        expect.due("nothing came of them", 118, x.count(5));
        expect.due("two more", 120, x.feed(0, 2));
        expect.due("one more", Expect.FULL, x.feed(0, 1));
        expect.due("BEYOND is asked first", Expect.BEYOND, x.feed(0, 5));
    }

    private static void wipe() {
        WrappedHands x = new WrappedHands();
        expect.due("wipe nothing", 0, x.wipe());
        x.feed(0x6c617720, 4);
        expect.due("wipe", 4, x.wipe());
        expect.due("bytes", 0, x.count(5));
        x.feed(0x6c617735, 4);
        expect.due("none of the wiped ones", 1, x.text());
    }

    private static void people() {
        String[] words = {"hand", "keeping", "blind", "inlaw", "forging", "child", "imp"};
        for (int kind = 0; kind < words.length; kind++) {
            WrappedHands x = new WrappedHands();
            expect.due(words[kind], 1, Coasts.read(x, words[kind]));
            int[] due = {kind, 1, 0, 50, 0, 0};
            for (int what = 0; what < due.length; what++) {
                expect.due(words[kind] + ": of(0, " + what + ")", due[what], x.of(0, what));
            }
        }
    }

    private static void traits() {
        WrappedHands x = new WrappedHands();
        expect.due("three", 3, Coasts.read(x,
                "imp next 7 wish 6 greed 99;hand next 0;child wish 7 greed 0"));
        int[][] due = {{6, 7, 6, 99}, {0, 0, 0, 50}, {5, 3, 7, 0}};
        for (int p = 0; p < 3; p++) {
            for (int what = 0; what < 4; what++) {
                expect.due("of(" + p + ", " + what + ")", due[p][what], x.of(p, what));
            }
        }
        expect.due("greed alone", 1, Coasts.read(x, "blind greed 7"));
        expect.due("of(3, 3)", 7, x.of(3, 3));
        expect.due("NEXT as for a new one", 4, x.of(3, 1));
        expect.due("seven, then the eighth", 4, Coasts.read(x, "imp;imp;imp;imp"));
        expect.due("NEXT behind 7", 0, x.of(7, 1));
    }

    private static void gifts() {
        WrappedHands x = new WrappedHands();
        expect.due("people and gifts", 6, Coasts.read(x,
                "hand;gift 1;hand;gift 50 worth 99 with 1;gift 7 worth 0;gift 8 with 0"));
        int[][] due = {{1, 0, 0, 0, 0}, {50, 99, 1, 0, 0}, {7, 0, 0, 0, 0}, {8, 0, 0, 0, 0}};
        for (int g = 0; g < due.length; g++) {
            for (int what = 0; what < due[g].length; what++) {
                expect.due("giftOf(" + g + ", " + what + ")", due[g][what], x.giftOf(g, what));
            }
        }
        expect.due("for one who was there", 1, Coasts.read(x, "gift 9 with 1"));
        expect.due("it is 1's", 1, x.giftOf(4, 2));
    }

    private static void rules() {
        WrappedHands x = new WrappedHands();
        expect.due("law 20;paper 9", 2, Coasts.read(x, "law 20;paper 9"));
        expect.due("LAW", 20, x.now(4));
        expect.due("PAPER", 9, x.now(5));
        expect.due("the last counts", 4, Coasts.read(x, "law 2;paper 3;law 1;paper 0"));
        expect.due("LAW then", 1, x.now(4));
        expect.due("PAPER then", 0, x.now(5));
    }

    private static void blanks() {
        reads("  hand  next   3  ;  law   4  ", 2);
        reads("handnext3", -1);
        reads("hand next3wish4greed5;law7", 2);
        reads("law 007", 1);
        reads("law 000000000000000000000000000000000000000000000000000020", 1);
        reads("law 0000000000000000000000000000000000000000000000000000021", -5);
        faults("law\t4", 3);
        faults("law 4\n", 5);
        faults("la w 4", 0);
        faults("law 1 4", 6);
    }

    private static void faultsOfNumbers() {
        faults("hand next 8", 10);
        faults("hand wish 8", 10);
        faults("hand greed 100", 11);
        faults("hand next 1000", 10);
        faults("hand next 4294967296", 10);
        faults("law 0", 4);
        faults("law 21", 4);
        faults("paper 10", 6);
        faults("hand;gift 0", 10);
        faults("hand;gift 51", 10);
        faults("hand;gift 5 worth 100", 18);
        faults("hand;gift 5 with 1", 17);
        faults("hand;gift 5 with 1;hand", 17);
        reads("hand;hand;gift 5 with 1", 3);
        faults("law law", 4);
        faults("law ;", 4);
        faults("hand next wish 3", 10);
        faults("7", 0);
        faults("hand 7", 5);
    }

    private static void faultsOfWords() {
        faults("hands", 0);
        faults("han", 0);
        faults("xand", 0);
        faults("hanx", 0);
        faults("hand mext 3", 5);
        faults("a", 0);
        faults("next 3", 0);
        faults("hand;wish 3", 5);
        faults("hand hand", 5);
        faults("hand wish 3 next 3", 12);
        faults("hand greed 3 wish 3", 13);
        faults("hand next 3 next 3", 12);
        faults("hand worth 3", 5);
        faults("hand;gift 3 with 0 worth 3", 19);
        faults("hand;gift 3 wish 3", 12);
        faults("hand;gift 3 worth 3 worth 3", 20);
        faults("law 3 paper 3", 6);
        faults("law 3;;law 3", 6);
        faults(";", 0);
        faults("gift 3", 0);
        faults("gift 3;hand", 0);
    }

    private static void faultsOfBytes() {
        faults("Hand", 0);
        faults("haNd", 0);
        faults("hand.", 4);
        faults("hand next -1", 10);
        faults("law 3:", 5);
        faults("law 3/", 5);
        faults("law 3`", 5);
        faults("law 3{", 5);
        faults("law 3 " + (char) 0, 6);
        faults("law 3 " + (char) 255, 6);
        faults("law 3" + (char) 160, 5);
    }

    private static void faultsOfEarlyEnds() {
        faults("", 0);
        faults("   ", 3);
        faults("law", 3);
        faults("law  ", 5);
        faults("law 3;", 6);
        faults("law 3; ", 7);
        faults("hand next", 9);
        faults("hand wish 3 greed", 17);
        faults("hand;gift", 9);
        faults("hand;gift 3 worth", 17);
        faults("hand;gift 3 with ", 17);
        faults("paper", 5);
    }

    private static void faultsOfTooMany() {
        faults("imp;imp;imp;imp;imp;imp;imp;imp;imp", 32);
        reads("imp;imp;imp;imp;imp;imp;imp;imp;law 1", 9);
        faults("hand;gift 1;gift 2;gift 3;gift 4;gift 5;gift 6", 40);
        WrappedHands x = Coasts.hands(7);
        expect.due("an 8th and a 9th", -6, Coasts.read(x, "hand;hand"));
        expect.due("neither came", 7, x.count(1));
        expect.due("an 8th", 1, Coasts.read(x, "hand"));
        expect.due("a 9th", -1, Coasts.read(x, "child next 9"));
        for (int g = 0; g < 5; g++) {
            x.gift(1, 1, 0);
        }
        expect.due("a 6th gift", -1, Coasts.read(x, "gift 60"));
    }

    private static void aFaultChangesNothing() {
        WrappedHands x = Coasts.hands(2);
        x.gift(3, 4, 1);
        expect.due("a fault at the end", -48, Coasts.read(x, "imp next 7;law 3;paper 4;gift 5 worth 6 with 2;!"));
        expect.due("people", 2, x.count(1));
        expect.due("gifts", 1, x.count(2));
        expect.due("LAW", 9, x.now(4));
        expect.due("PAPER", 1, x.now(5));
        expect.due("the tape is empty", 0, x.count(5));
        expect.due("no finding", 0, x.status(-1));
        x.person(Coasts.CHILD);
        expect.due("NEXT of the next one", 3, x.of(2, 1));
    }

    private static void textsBehindOneAnother() {
        WrappedHands x = new WrappedHands();
        expect.due("hand", 1, Coasts.read(x, "hand"));
        expect.due("child", 1, Coasts.read(x, "child next 0"));
        expect.due("gift", 1, Coasts.read(x, "gift 5 worth 7 with 1"));
        x.days(1);
        expect.due("in the HAND of 0", 0, x.giftOf(0, 2));
        expect.due("a text leaves layers and days", 1, Coasts.read(x, "law 3"));
        expect.due("layers", 1, x.now(3));
        expect.due("DAY", 1, x.now(0));
    }

    private static void fullTape() {
        StringBuilder text = new StringBuilder();
        for (int i = 0; i < 20; i++) {
            text.append("law ").append(i % 9 + 1).append(';');
        }
        text.setCharAt(119, ' ');
        reads(text.toString(), 20);
        text.setCharAt(119, ';');
        faults(text.toString(), 120);
        StringBuilder signs = new StringBuilder();
        for (int i = 0; i < 120; i++) {
            signs.append(';');
        }
        faults(signs.toString(), 0);
    }
}
