/** Promises 37 to 39, and item 3 of the Terms: the tape and texts. */
final class TapeEdges {
    private final Sentences s;

    TapeEdges(Sentences s) {
        this.s = s;
    }

    void all() {
        tape();
        tokens();
        itemsInARow();
        ofPeople();
        ofGifts();
        ofRules();
        faultOfNumbers();
        faultOfOtherTokens();
        faultOfTooMany();
        faultOfEarlyEnds();
        feed();
        feedRefused();
        wipe();
        text();
        textWithAFault();
    }

    private void reads(String text, int items) {
        s.due("text \"" + text + "\"", items, Coasts.read(new WrappedHands(), text));
    }

    private void faults(String text, int place) {
        reads(text, -1 - place);
    }

    /** What a call answers behind a text on a new object. */
    private void tells(String text, String call, int want, Sentences.Act act) {
        WrappedHands x = new WrappedHands();
        s.due("text \"" + text + "\" has no fault", 1, Coasts.read(x, text) > 0 ? 1 : 0);
        s.due("text \"" + text + "\", then " + call, want, act.on(x));
    }

    private static String repeated(String text, int times) {
        StringBuilder all = new StringBuilder();
        for (int i = 0; i < times; i++) {
            all.append(text);
        }
        return all.toString();
    }

    private void tape() {
        s.terms("3. A TEXT is read from THE TAPE (bytes, at most 120).");
        WrappedHands x = new WrappedHands();
        for (int i = 1; i <= 120; i++) {
            s.due("a byte more", i, x.feed(i == 120 ? '3' : i < 5 ? "law ".charAt(i - 1) : ' ', 1));
        }
        s.due("the 121st", Expect.FULL, x.feed('0', 1));
        s.due("all 120 are read", 1, x.text());
        s.due("to the last", 3, x.now(4));
    }

    private void tokens() {
        s.terms("TOKENS, each as long as can be: WORDS (letters a to z), NUMBERS (digits, 999 at most), SIGN ; ;"
                + " blanks may stand between.");
        faults("handwish3", 0);
        reads("hand wish3greed4;law5", 2);
        reads("hand;law 5;paper 3", 3);
        reads("   hand   ;   law    5   ", 2);
        reads("law 5" + repeated(" ", 115), 1);
        tells("law 12", "now(4)", 12, x -> x.now(4));
        faults("law 1 2", 6);
        faults("law 999", 4);
        faults("law 1000", 4);
        faults("law 2147483649", 4);
        faults("law 4294967297", 4);
        faults("law " + repeated("9", 116), 4);
        tells("law " + repeated("0", 115) + "7", "now(4)", 7, x -> x.now(4));
        int[] noLetters = {'a' - 1, 'z' + 1, 'A', 'Z', 'H'};
        for (int sign : noLetters) {
            faults("" + (char) sign, 0);
            faults("hand" + (char) sign, 4);
        }
        int[] noDigits = {'0' - 1, '9' + 1};
        for (int sign : noDigits) {
            faults("law 1" + (char) sign, 5);
        }
    }

    private void itemsInARow() {
        s.terms("TEXT: ITEM { ; ITEM }.");
        reads("hand", 1);
        reads("hand;hand", 2);
        reads(repeated("law 1;", 19) + "law 1", 20);
        faults("", 0);
        faults(";", 0);
        faults(repeated(";", 120), 0);
        faults("hand;", 5);
        faults(";hand", 0);
        faults("hand;;hand", 5);
        faults("hand hand", 5);
    }

    private void ofPeople() {
        s.terms("ITEM: hand, keeping, blind, inlaw, forging, child or imp,");
        String[] words = {"hand", "keeping", "blind", "inlaw", "forging", "child", "imp"};
        for (int kind = 0; kind < words.length; kind++) {
            tells(words[kind], "of(0, 0)", kind, x -> x.of(0, 0));
        }
        String[] traits = {"next", "wish", "greed"};
        String[] quotes = {"perhaps next and a NUMBER (0 to 7),", "perhaps wish and a NUMBER (0 to 7),",
            "perhaps greed and a NUMBER (0 to 99): a new one;"};
        int[] most = {7, 7, 99};
        int[] without = {1, 0, 50};
        for (int i = 0; i < traits.length; i++) {
            int what = i + 1;
            s.terms(quotes[i]);
            tells("hand", "of(0, " + what + ")", without[i], x -> x.of(0, what));
            tells("hand " + traits[i] + " 0", "of(0, " + what + ")", 0, x -> x.of(0, what));
            tells("hand " + traits[i] + " " + most[i], "of(0, " + what + ")", most[i], x -> x.of(0, what));
            faults("hand " + traits[i] + " " + (most[i] + 1), 6 + traits[i].length());
            faults("hand " + traits[i], 5 + traits[i].length());
            faults("hand " + traits[i] + " 1 " + traits[i] + " 1", 8 + traits[i].length());
        }
        reads("imp next 7 wish 7 greed 99", 1);
        faults("hand wish 1 next 1", 12);
        faults("hand greed 1 wish 1", 13);
        tells(repeated("imp;", 7) + "imp", "of(7, 1)", 0, x -> x.of(7, 1));
    }

    private void ofGifts() {
        s.terms("gift and a NUMBER (WEIGHT),");
        tells("hand;gift 1", "giftOf(0, 0)", 1, x -> x.giftOf(0, 0));
        tells("hand;gift 50", "giftOf(0, 0)", 50, x -> x.giftOf(0, 0));
        faults("hand;gift 0", 10);
        faults("hand;gift 51", 10);
        faults("hand;gift worth 3", 10);
        s.terms("perhaps worth and a NUMBER (0 to 99; 0 without),");
        tells("hand;gift 1", "giftOf(0, 1)", 0, x -> x.giftOf(0, 1));
        tells("hand;gift 1 worth 0", "giftOf(0, 1)", 0, x -> x.giftOf(0, 1));
        tells("hand;gift 1 worth 99", "giftOf(0, 1)", 99, x -> x.giftOf(0, 1));
        faults("hand;gift 1 worth 100", 18);
        s.terms("perhaps with and a NUMBER (one who is there by then; 0 without): a new GIFT;");
        tells("hand;hand;gift 1", "giftOf(0, 2)", 0, x -> x.giftOf(0, 2));
        tells("hand;hand;gift 1 with 0", "giftOf(0, 2)", 0, x -> x.giftOf(0, 2));
        tells("hand;hand;gift 1 with 1", "giftOf(0, 2)", 1, x -> x.giftOf(0, 2));
        tells("hand;hand;gift 1 worth 2 with 1", "count(4)", 2, x -> x.count(4));
        tells(repeated("imp;", 8) + "gift 1 with 7", "giftOf(0, 2)", 7, x -> x.giftOf(0, 2));
        faults("hand;gift 1 with 1", 17);
        faults("hand;gift 1 with 1;hand", 17);
        faults(repeated("imp;", 8) + "gift 1 with 8", 44);
        WrappedHands x = Coasts.hands(3);
        s.due("one who was there", 1, Coasts.read(x, "gift 1 with 2"));
        s.due("in whose HAND", 2, x.giftOf(0, 2));
    }

    private void ofRules() {
        s.terms("law and a NUMBER (1 to 20);");
        tells("law 1", "now(4)", 1, x -> x.now(4));
        tells("law 20", "now(4)", 20, x -> x.now(4));
        faults("law 0", 4);
        faults("law 21", 4);
        s.terms("paper and a NUMBER (0 to 9).");
        tells("paper 0", "now(5)", 0, x -> x.now(5));
        tells("paper 9", "now(5)", 9, x -> x.now(5));
        faults("paper 10", 6);
    }

    private void faultOfNumbers() {
        s.terms("FAULT: the place (from 0) of the first byte of the first TOKEN that can't stand there");
        faults("7", 0);
        faults("   7", 3);
        faults("hand   7 law 0", 7);
        faults("law 0;law 0", 4);
        faults(repeated(" ", 119) + "7", 119);
        s.terms("(a NUMBER that isn't as told,");
        faults("hand;gift 51 worth 100", 10);
        faults("hand;gift 50 worth 100 with 1", 19);
        faults("hand;gift 50 worth 99 with 1", 27);
        faults("hand next 8", 10);
        faults("hand next 08", 10);
        faults("hand wish 99", 10);
        faults("hand greed 0100", 11);
    }

    private void faultOfOtherTokens() {
        s.terms("another WORD,");
        faults("nobody", 0);
        faults("han", 0);
        faults("handy", 0);
        faults("in law", 0);
        faults("hand laws", 5);
        faults("law five", 4);
        faults("law 5 paper 5", 6);
        faults("hand worth 5", 5);
        faults("hand;gift 5 greed 5", 12);
        String[] notFirst = {"next", "wish", "greed", "worth", "with"};
        for (String word : notFirst) {
            faults(word + " 1", 0);
            faults("hand;" + word + " 1", 5);
        }
        String[] items = {"hand", "keeping", "blind", "inlaw", "forging", "child", "imp", "gift", "law", "paper"};
        for (String word : items) {
            for (int i = 0; i < word.length(); i++) {
                faults("hand;" + word.substring(0, i) + "q" + word.substring(i + 1) + " 1", 5);
                faults("hand;" + word.substring(0, i) + word.substring(i + 1) + " 1", 5);
            }
        }
        s.terms("a byte that begins no TOKEN,");
        for (int sign = 0; sign <= 255; sign++) {
            boolean letter = sign >= 'a' && sign <= 'z';
            boolean fine = sign == ' ' || sign == ';' || letter || sign >= '0' && sign <= '9';
            if (!fine) {
                faults("law 5 " + (char) sign, 6);
                faults("law " + (char) sign + "5", 4);
            }
        }
    }

    private void faultOfTooMany() {
        s.terms("the WORD of a 9th one, of a 6th GIFT, of a GIFT with nobody there: its own),");
        reads(repeated("imp;", 7) + "imp", 8);
        faults(repeated("imp;", 8) + "imp", 32);
        faults(repeated("imp;", 8) + "imp next 9", 32);
        reads("imp" + repeated(";gift 1", 5), 6);
        faults("imp" + repeated(";gift 1", 6), 39);
        faults("imp" + repeated(";gift 1", 5) + ";gift 0", 39);
        faults("gift 1", 0);
        faults("gift 0", 0);
        faults("law 1;gift 1;hand", 6);
        WrappedHands x = Scenes.fullOfPeople();
        s.due("a 9th with those there", -1, Coasts.read(x, "hand"));
        s.due("a 6th with those there", -7, Coasts.read(x, "law 5;gift 1"));
    }

    private void faultOfEarlyEnds() {
        s.terms("or how many bytes there are if it ends too early.");
        faults("", 0);
        faults(" ", 1);
        faults("law", 3);
        faults("law ", 4);
        faults("law 5;", 6);
        faults("law 5;  ", 8);
        faults("hand next", 9);
        faults("hand next 1 wish", 16);
        faults("hand greed  ", 12);
        faults("hand;gift", 9);
        faults("hand;gift 1 worth", 17);
        faults("hand;gift 1 with", 16);
        faults("paper", 5);
        faults(repeated("law 5;", 20), 120);
    }

    private void feed() {
        s.promise(37, "THE TAPE gets the n lowest bytes of a number behind it, the highest of these first (n 1 to 4):"
                + " how many it has.");
        WrappedHands x = new WrappedHands();
        s.due("law", 3, x.feed(0xff6c6177, 3));
        s.due("a blank", 4, x.feed(0x37373720, 1));
        s.due("1 and 3", 6, x.feed(0x39393133, 2));
        s.due("; and law", 10, x.feed(0x3b6c6177, 4));
        s.due("2", 11, x.feed(0x32, 1));
        s.due("law 13;law2", 2, x.text());
        s.due("LAW", 2, x.now(4));
        WrappedHands y = new WrappedHands();
        s.due("the highest bit set", 4, y.feed(0xe16c6177, 4));
        s.due("it begins no TOKEN", -1, y.text());
        s.due("to the last byte", 120, fed(119).feed(0, 1));
        s.due("to the last four", 120, fed(116).feed(0, 4));
    }

    private static WrappedHands fed(int bytes) {
        WrappedHands x = new WrappedHands();
        for (int i = 0; i < bytes; i++) {
            x.feed(' ', 1);
        }
        return x;
    }

    private void feedRefused() {
        s.promise(37, "BEYOND: n.");
        int[] never = {Integer.MIN_VALUE, -1, 0, 5, Integer.MAX_VALUE};
        s.refusedWith(never, Scenes::rich, Expect.BEYOND, "feed(7, ?)", (x, v) -> x.feed(7, v));
        s.refusedWith(never, Scenes::nearlyFullTape, Expect.BEYOND, "feed(7, ?) of 119", (x, v) -> x.feed(7, v));
        s.promise(37, "FULL.");
        s.refusedWith(new int[] {2, 3, 4}, Scenes::nearlyFullTape, Expect.FULL, "feed(32, ?) of 119",
                (x, v) -> x.feed(' ', v));
        s.refused(TapeEdges::fullTape, Expect.FULL, "feed(32, 1) of 120", x -> x.feed(' ', 1));
    }

    private static WrappedHands fullTape() {
        WrappedHands x = Scenes.nearlyFullTape();
        x.feed(' ', 1);
        return x;
    }

    private void wipe() {
        s.promise(38, "THE TAPE is empty: how many it had.");
        WrappedHands x = Scenes.rich();
        s.due("5", 5, x.wipe());
        s.due("none", 0, x.wipe());
        s.due("nothing is read", -1, x.text());
        s.due("all 120", 120, fed(120).wipe());
        WrappedHands y = fed(120);
        y.wipe();
        s.due("room again", 4, y.feed(0x6c617734, 4));
        s.due("law4", 1, y.text());
    }

    private void text() {
        s.promise(39, "THE TAPE is a TEXT, and empty then; all that it tells is so, item by item: how many ITEMS.");
        WrappedHands x = new WrappedHands();
        Coasts.feed(x, "hand;gift 3 worth 4;law 5;imp next 0;gift 6 with 1;paper 7;law 8");
        s.due("ITEMS", 7, x.text());
        s.due("THE TAPE", 0, x.count(5));
        s.due("PEOPLE", 2, x.count(1));
        s.due("GIFTS", 2, x.count(2));
        s.due("WORTH", 4, x.count(4));
        s.due("the later LAW", 8, x.now(4));
        s.due("PAPER", 7, x.now(5));
        s.due("an IMP has the second gift", 0b10, x.of(1, 4));
        s.due("none of it twice", -1, x.text());
        WrappedHands y = Scenes.rich();
        s.due("behind what is there", 2, Coasts.read(y, "child greed 1;paper 0"));
        s.due("the 8th one", Coasts.CHILD, y.of(7, 0));
        s.due("NEXT of the 8th", 0, y.of(7, 1));
        s.due("LAYERS stay", 2, y.now(3));
        s.due("DAY stays", 2, y.now(0));
    }

    private void textWithAFault() {
        s.promise(39, "With a FAULT: -1 less the FAULT (nothing changes but that THE TAPE is empty; no finding).");
        String[] texts = {"", " ", "law 5;", "imp next 3 wish 5;law 3;paper 4;imp", "law 3;gift 1", "paper 3;hands", "x"};
        int[] places = {0, 1, 6, 32, 6, 8, 0};
        for (int i = 0; i < texts.length; i++) {
            WrappedHands x = Scenes.rich();
            x.wipe();
            Coasts.feed(x, texts[i]);
            s.due("text \"" + texts[i] + "\"", -1 - places[i], x.text());
            s.due("THE TAPE", 0, x.count(5));
            s.due("no finding", 0, x.status(-1));
            WrappedHands untouched = Scenes.rich();
            untouched.wipe();
            s.due("all else is as it was", 1, Whole.of(x).equals(Whole.of(untouched)) ? 1 : 0);
        }
    }
}
