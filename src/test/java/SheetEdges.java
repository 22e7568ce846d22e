/** Promises 40 to 46, and the last block of the Terms: spots and sheets. */
final class SheetEdges {
    private static final int[] NO_SPOTS = {Integer.MIN_VALUE, -1, 10, Integer.MAX_VALUE};

    private final Sentences s;

    SheetEdges(Sentences s) {
        this.s = s;
    }

    void all() {
        spotsAtFirst();
        sheetsAtFirst();
        signs();
        hold();
        as();
        sheet();
        sheetRefused();
        write();
        copy();
        copyRefused();
        copyOfTooMany();
        load();
        judge();
        judgeRefused();
    }

    private void spotsAtFirst() {
        s.terms("SPOTS 0 to 9 hold one of PEOPLE or nothing (at first).");
        WrappedHands x = Scenes.onePerson();
        for (int spot = 0; spot <= 9; spot++) {
            s.due("nothing in " + spot, Expect.MISSING, x.as(spot, 0));
            s.due("hold(" + spot + ", 0)", 1, x.hold(spot, 0));
            s.due("one in " + spot, 0, x.as(spot, 0));
            s.due("so many", spot + 1, x.count(7));
        }
        s.due("hold(10, 0)", Expect.BEYOND, x.hold(10, 0));
    }

    private void sheetsAtFirst() {
        s.terms("SHEETS 0 to 3: rows of at most 40 numbers");
        WrappedHands x = Scenes.onePerson();
        for (int sheet = 0; sheet <= 3; sheet++) {
            s.due("40", 40, x.sheet(sheet, 8, 40));
            s.due("the last", 1, x.write(sheet, 39, 7));
            s.due("no 41st", Expect.BEYOND, x.write(sheet, 40, 7));
            s.due("41", Expect.BEYOND, x.sheet(sheet, 8, 41));
        }
        s.due("sheet 4", Expect.BEYOND, x.sheet(4, 8, 40));
        s.terms("or MISSING (at first).");
        WrappedHands y = Scenes.onePerson();
        y.gift(1, 0, 0);
        for (int sheet = 0; sheet <= 3; sheet++) {
            s.due("load", Expect.MISSING, y.load(sheet));
            s.due("judge", Expect.MISSING, y.judge(sheet, 0));
            s.due("write", Expect.MISSING, y.write(sheet, 0, 0));
            s.due("copy", Expect.MISSING, y.copy(sheet, 0, sheet, 0, 0));
        }
    }

    /** Of a gift WITHIN another the true number is -1; of one that stays with 0 it is 0. */
    private void signs() {
        s.terms("of 8, 16 or 32 bits (told with their sign: of 8 bits 255 is -1),");
        long[][] same = {{8, 255, -1}, {8, 256, 0}, {8, -256, 0}, {8, 511, -1}, {16, 65535, -1}, {16, 65536, 0},
            {16, -65536, 0}, {32, 0xffffffffL, -1}, {32, 1L << 32, 0}};
        for (long[] one : same) {
            s.due(one[1] + " of " + one[0] + " bits is " + one[2], 0, judgedAs((int) one[0], (int) one[1], (int) one[2]));
        }
        long[][] other = {{8, 127, -1}, {8, 128, 0}, {8, 254, -1}, {16, 255, -1}, {16, 256, 0}, {16, 32767, -1},
            {16, 32768, 0}, {32, 65535, -1}, {32, 65536, 0}, {32, 1L << 31, 0}, {32, Integer.MAX_VALUE, -1}};
        for (long[] one : other) {
            s.due(one[1] + " of " + one[0] + " bits isn't " + one[2], 1,
                    judgedAs((int) one[0], (int) one[1], (int) one[2]));
        }
    }

    private static int judgedAs(int bits, int v, int holder) {
        WrappedHands x = Scenes.onePerson();
        x.gift(1, 0, 0);
        x.gift(1, 0, 0);
        x.skin(1, 0);
        x.sheet(0, bits, 1);
        x.write(0, 0, v);
        return x.judge(0, holder == -1 ? 1 : 0);
    }

    private void hold() {
        s.promise(40, "A SPOT holds one, or nothing (-1): 1.");
        WrappedHands x = Scenes.fullOfPeople();
        s.due("the last one", 1, x.hold(9, 7));
        s.due("7", 7, x.as(9, 0));
        s.due("another one in its stead", 1, x.hold(9, 0));
        s.due("0", 0, x.as(9, 0));
        s.due("nothing in its stead", 1, x.hold(9, -1));
        s.due("nothing", Expect.MISSING, x.as(9, 0));
        s.due("nothing again", 1, x.hold(9, -1));
        s.due("two are left", 2, x.count(7));
        s.due("one in two", 1, x.hold(5, 6));
        s.due("in the other, too", 6, x.as(3, 6));
        s.promise(40, "BEYOND.");
        s.refusedWith(NO_SPOTS, Scenes::rich, Expect.BEYOND, "hold(?, 0)", (y, v) -> y.hold(v, 0));
        s.refusedWith(NO_SPOTS, Scenes::rich, Expect.BEYOND, "hold(?, -1)", (y, v) -> y.hold(v, -1));
        int[] nobody = {Integer.MIN_VALUE, -2, Scenes.NOBODY, 8, Integer.MAX_VALUE};
        s.refusedWith(nobody, Scenes::rich, Expect.BEYOND, "hold(0, ?)", (y, v) -> y.hold(0, v));
        s.refused(Scenes::empty, Expect.BEYOND, "hold(0, 0) of nobody", y -> y.hold(0, 0));
    }

    private void as() {
        s.promise(41, "What a SPOT holds as one of a kind (0 to 6): the number.");
        WrappedHands x = Scenes.rich();
        s.due("an IMP as one", 6, x.as(3, Coasts.IMP));
        s.due("an IMP as a CHILD", 6, x.as(3, Coasts.CHILD));
        s.due("an IMP as a HAND", 6, x.as(3, Coasts.HAND));
        s.due("one IN LAW as KEEPING", 3, x.as(9, Coasts.KEEPING));
        s.promise(41, "BEYOND.");
        int[] noKinds = {Integer.MIN_VALUE, -1, 7, Integer.MAX_VALUE};
        s.refusedWith(NO_SPOTS, Scenes::rich, Expect.BEYOND, "as(?, 0)", (y, v) -> y.as(v, 0));
        s.refusedWith(noKinds, Scenes::rich, Expect.BEYOND, "as(0, ?)", (y, v) -> y.as(0, v));
        s.refusedWith(noKinds, Scenes::rich, Expect.BEYOND, "as(1, ?) of nothing", (y, v) -> y.as(1, v));
        s.promise(41, "MISSING: it holds nothing.");
        s.refusedWith(new int[] {1, 2, 4, 8}, Scenes::rich, Expect.MISSING, "as(?, 0)", (y, v) -> y.as(v, 0));
        s.refusedWith(new int[] {0, 1, 2, 3, 4, 5, 6}, Scenes::rich, Expect.MISSING, "as(1, ?)",
                (y, v) -> y.as(1, v));
        s.promise(41, "KIND: it isn't of that kind, nor of one under it.");
        s.refusedWith(new int[] {2, 3, 4, 5, 6}, Scenes::rich, Expect.KIND, "as(0, ?) of KEEPING",
                (y, v) -> y.as(0, v));
        s.refusedWith(new int[] {1, 2, 3, 4}, Scenes::rich, Expect.KIND, "as(3, ?) of an IMP", (y, v) -> y.as(3, v));
        s.refusedWith(new int[] {2, 4, 5, 6}, Scenes::rich, Expect.KIND, "as(9, ?) of one IN LAW",
                (y, v) -> y.as(9, v));
        x.change(6, 0, Coasts.HAND);
        s.due("a HAND is no IMP", Expect.KIND, x.as(3, Coasts.IMP));
    }

    private void sheet() {
        s.promise(42, "A sheet has n numbers, all 0, of 8, 16 or 32 bits; bits 0: it is MISSING: n (0 if it is"
                + " MISSING).");
        int[] bits = {8, 16, 32};
        for (int b : bits) {
            WrappedHands x = Coasts.hands(8);
            s.due("none of " + b, 0, x.sheet(0, b, 0));
            s.due("but it isn't MISSING", 0, x.load(0));
            s.due("has no number", Expect.BEYOND, x.write(0, 0, 0));
            s.due("40 of " + b, 40, x.sheet(0, b, 40));
            x.write(0, 0, 7);
            x.write(0, 7, 7);
            s.due("4 of " + b, 4, x.sheet(0, b, 4));
            s.due("no 5th", Expect.BEYOND, x.write(0, 4, 0));
            s.due("all come", 4, x.load(0));
            s.due("all 0", 0, x.of(0, 2));
            s.due("8 again", 8, x.sheet(0, b, 8));
            s.due("all of these come", 8, x.load(0));
            s.due("all 0 again", 0, x.of(7, 2));
            s.due("the last of forty is 0", 0, lastOfForty(x, b));
            s.due("MISSING", 0, x.sheet(0, 0, 40));
            s.due("so it is", Expect.MISSING, x.load(0));
            s.due("MISSING still", 0, x.sheet(0, 0, 0));
        }
    }

    /** Made a second time, when the number was 7. */
    private static int lastOfForty(WrappedHands x, int bits) {
        x.sheet(1, bits, 40);
        x.write(1, 39, 7);
        x.sheet(1, bits, 40);
        x.copy(1, 39, 1, 0, 1);
        x.load(1);
        return x.of(0, 2);
    }

    private void sheetRefused() {
        s.promise(42, "BEYOND: no such sheet, other bits.");
        int[] bits = {Integer.MIN_VALUE, -8, -1, 1, 7, 9, 15, 24, 31, 33, 64, Integer.MAX_VALUE};
        s.refusedWith(Scenes.NO_SHEETS, Scenes::rich, Expect.BEYOND, "sheet(?, 8, 1)", (x, v) -> x.sheet(v, 8, 1));
        s.refusedWith(Scenes.NO_SHEETS, Scenes::rich, Expect.BEYOND, "sheet(?, 8, -1)", (x, v) -> x.sheet(v, 8, -1));
        s.refusedWith(bits, Scenes::rich, Expect.BEYOND, "sheet(0, ?, 1)", (x, v) -> x.sheet(0, v, 1));
        s.refusedWith(bits, Scenes::rich, Expect.BEYOND, "sheet(0, ?, -1)", (x, v) -> x.sheet(0, v, -1));
        s.promise(42, "SIZE: n is below 0 (also with bits 0).");
        int[] below = {Integer.MIN_VALUE, -41, -1};
        int[] above = {41, 256, Integer.MAX_VALUE};
        int[] known = {0, 8, 16, 32};
        for (int b : known) {
            s.refusedWith(below, Scenes::rich, Expect.SIZE, "sheet(0, " + b + ", ?)", (x, v) -> x.sheet(0, b, v));
        }
        s.promise(42, "BEYOND: n is above 40 (also with bits 0).");
        for (int b : known) {
            s.refusedWith(above, Scenes::rich, Expect.BEYOND, "sheet(0, " + b + ", ?)", (x, v) -> x.sheet(0, b, v));
        }
    }

    private void write() {
        s.promise(43, "Number i of a sheet becomes v (its lowest bits): 1.");
        WrappedHands x = Scenes.rich();
        s.due("the first", 1, x.write(Scenes.EIGHT, 0, 0x7fffff01));
        s.due("the last", 1, x.write(Scenes.EIGHT, 2, 0x80000003));
        s.due("all come", 3, x.load(Scenes.EIGHT));
        s.due("1 of 8 bits", 1, x.of(0, 2));
        s.due("between them", 0, x.of(1, 2));
        s.due("3 of 8 bits", 3, x.of(2, 2));
        s.due("of 16 bits", 1, x.write(Scenes.SIXTEEN, 0, 0x70002));
        s.due("another of 16 bits", 1, x.write(Scenes.SIXTEEN, 2, 0x102));
        s.due("258 isn't 0 to 7", 2, x.load(Scenes.SIXTEEN));
        s.due("2 of 16 bits", 2, x.of(0, 2));
        s.promise(43, "BEYOND: no such sheet.");
        s.refusedWith(Scenes.NO_SHEETS, Scenes::rich, Expect.BEYOND, "write(?, 0, 1)", (y, v) -> y.write(v, 0, 1));
        s.promise(43, "MISSING.");
        s.refusedWith(new int[] {-1, 0, 40}, Scenes::rich, Expect.MISSING, "write(3, ?, 1)",
                (y, v) -> y.write(Scenes.MISSING, v, 1));
        s.promise(43, "BEYOND: no such number.");
        s.refusedWith(new int[] {Integer.MIN_VALUE, -1, 3, 4, 40, Integer.MAX_VALUE}, Scenes::rich, Expect.BEYOND,
                "write(0, ?, 1)", (y, v) -> y.write(Scenes.EIGHT, v, 1));
    }

    private static WrappedHands withNumbers(int many) {
        WrappedHands x = Coasts.hands(8);
        x.sheet(0, 32, many);
        for (int i = 0; i < many; i++) {
            x.write(0, i, (i + 1) % 8);
        }
        return x;
    }

    /** The numbers of a sheet up to the 8th, each 0 to 7, as digits behind a 1. */
    private static int told(WrappedHands x, int sheet) {
        int came = x.load(sheet);
        int digits = 1;
        for (int p = 0; p < came; p++) {
            digits = digits * 10 + x.of(p, 2);
        }
        return digits;
    }

    private void copy() {
        s.promise(44, "n numbers of a sheet from one on come to another one from one on (as they all were): n.");
        WrappedHands x = withNumbers(7);
        x.sheet(1, 32, 7);
        s.due("all", 7, x.copy(0, 0, 1, 0, 7));
        s.due("all came", 11234567, told(x, 1));
        s.due("the last to the first", 1, x.copy(0, 6, 1, 0, 1));
        s.due("it came", 17234567, told(x, 1));
        s.due("the first to the last", 1, x.copy(0, 0, 1, 6, 1));
        s.due("that came, too", 17234561, told(x, 1));
        s.due("whence it came", 11234567, told(x, 0));
        s.due("none, at the ends", 0, x.copy(0, 7, 1, 7, 0));
        s.due("one and the same, upwards", 6, x.copy(0, 0, 0, 1, 6));
        s.due("as they all were", 11123456, told(x, 0));
        s.due("one and the same, downwards", 6, x.copy(0, 1, 0, 0, 6));
        s.due("as they all were then", 11234566, told(x, 0));
        WrappedHands z = withNumbers(40);
        z.sheet(3, 32, 40);
        s.due("all forty", 40, z.copy(0, 0, 3, 0, 40));
        s.due("the last of them", 1, z.copy(3, 38, 3, 0, 1));
        s.due("7", 172345670, told(z, 3));
    }

    private void copyRefused() {
        s.promise(44, "BEYOND: no such sheet (either).");
        s.refusedWith(Scenes.NO_SHEETS, Scenes::rich, Expect.BEYOND, "copy(?, 0, 0, 0, 0)",
                (x, v) -> x.copy(v, 0, 0, 0, 0));
        s.refusedWith(Scenes.NO_SHEETS, Scenes::rich, Expect.BEYOND, "copy(0, 0, ?, 0, 0)",
                (x, v) -> x.copy(0, 0, v, 0, 0));
        s.refusedWith(Scenes.NO_SHEETS, Scenes::rich, Expect.BEYOND, "copy(3, 0, ?, 0, 0)",
                (x, v) -> x.copy(Scenes.MISSING, 0, v, 0, 0));
        s.promise(44, "MISSING: one is.");
        s.refused(Scenes::rich, Expect.MISSING, "copy(3, 0, 0, 0, 0)", x -> x.copy(Scenes.MISSING, 0, 0, 0, 0));
        s.refused(Scenes::rich, Expect.MISSING, "copy(0, 0, 3, 0, 0)", x -> x.copy(0, 0, Scenes.MISSING, 0, 0));
        s.refused(Scenes::rich, Expect.MISSING, "copy(3, 0, 3, 0, 0)",
                x -> x.copy(Scenes.MISSING, 0, Scenes.MISSING, 0, 0));
        s.refused(Scenes::rich, Expect.MISSING, "copy(3, -1, 0, 0, 41)",
                x -> x.copy(Scenes.MISSING, -1, 0, 0, 41));
        s.promise(44, "KIND: they are not of as many bits.");
        s.refused(Scenes::rich, Expect.KIND, "8 to 16", x -> x.copy(Scenes.EIGHT, 0, Scenes.SIXTEEN, 0, 1));
        s.refused(Scenes::rich, Expect.KIND, "16 to 8", x -> x.copy(Scenes.SIXTEEN, 0, Scenes.EIGHT, 0, 1));
        s.refused(Scenes::rich, Expect.KIND, "none at all", x -> x.copy(Scenes.EIGHT, 0, Scenes.SIXTEEN, 0, 0));
        s.refused(Scenes::rich, Expect.KIND, "too many", x -> x.copy(Scenes.EIGHT, -1, Scenes.SIXTEEN, 0, 41));
    }

    /** Of the two sheets of 16 bits the one has 4 numbers, the other 2. */
    private void copyOfTooMany() {
        s.promise(44, "BEYOND: one has not so many, or from, to or n is below 0.");
        int least = Integer.MIN_VALUE;
        int most = Integer.MAX_VALUE;
        int[][] runs = {
            {0, 0, 3}, {3, 0, 2}, {0, 1, 2}, {4, 0, 1}, {0, 2, 1}, {5, 0, 0}, {0, 3, 0}, {0, 0, 41}, {0, 0, most},
            {most, 0, 1}, {0, most, 1}, {1, 0, most}, {0, 1, most}, {most, most, most}, {most, 0, 2}, {0, most, 2},
            {-1, 0, 1}, {0, -1, 1}, {0, 0, -1}, {-1, 0, 0}, {0, -1, 0}, {1, 1, -1}, {least, 0, 1}, {0, least, 1},
            {0, 0, least}, {-1, -1, -1}, {least, least, least}};
        for (int[] run : runs) {
            s.refused(Scenes::rich, Expect.BEYOND, "copy(1, " + run[0] + ", 2, " + run[1] + ", " + run[2] + ")",
                    x -> x.copy(Scenes.SIXTEEN, run[0], Scenes.OTHER_SIXTEEN, run[1], run[2]));
        }
        s.refused(Scenes::rich, Expect.BEYOND, "copy(2, 0, 1, 0, 3)",
                x -> x.copy(Scenes.OTHER_SIXTEEN, 0, Scenes.SIXTEEN, 0, 3));
        s.due("just so many", 2, Scenes.rich().copy(Scenes.SIXTEEN, 2, Scenes.OTHER_SIXTEEN, 0, 2));
    }

    private void load() {
        s.promise(45, "Numbers of a sheet, from its begin on, become WISHES of PEOPLE 0, 1, ..: how many came.");
        WrappedHands x = withNumbers(8);
        s.due("eight", 8, x.load(0));
        for (int p = 0; p < 8; p++) {
            s.due("WISH of " + p, (p + 1) % 8, x.of(p, 2));
        }
        WrappedHands z = withNumbers(3);
        z.change(3, 2, 6);
        s.due("three for eight", 3, z.load(0));
        s.due("the third", 3, z.of(2, 2));
        s.due("WISH of the next is as it was", 6, z.of(3, 2));
        s.promise(45, "It ends at the first that isn't 0 to 7, or for which there is nobody.");
        int[] never = {8, -1, Integer.MIN_VALUE, Integer.MAX_VALUE};
        for (int v : never) {
            x.change(0, 2, 6);
            x.write(0, 2, v);
            s.due("up to " + v, 2, x.load(0));
            s.due("WISH of 0", 1, x.of(0, 2));
            s.due("WISH of 2 is as it was", 3, x.of(2, 2));
            s.due("behind it, too", 4, x.of(3, 2));
            x.write(0, 0, v);
            s.due("none", 0, x.load(0));
            x.write(0, 0, 1);
        }
        s.due("forty for eight", 8, withNumbers(40).load(0));
        s.due("nobody there", 0, nobodyThere().load(0));
        s.due("no numbers", 0, withNumbers(0).load(0));
        s.promise(45, "BEYOND: no such sheet.");
        s.refusedWith(Scenes.NO_SHEETS, Scenes::rich, Expect.BEYOND, "load(?)", (y, v) -> y.load(v));
        s.promise(45, "MISSING.");
        s.refused(Scenes::rich, Expect.MISSING, "load(3)", y -> y.load(Scenes.MISSING));
    }

    private static WrappedHands nobodyThere() {
        WrappedHands x = new WrappedHands();
        x.sheet(0, 8, 3);
        return x;
    }

    /** WRAPPED goes to 4, 6, 4, 6, .. and is KEPT by 4 on the 8th day. */
    private void judge() {
        s.promise(46, "THE READER: numbers of a sheet tell in whose HAND a GIFT is (or by whom KEPT) behind 1, 2, .."
                + " DAYS AHEAD: 0 if all do; else 1 and the place of the first that doesn't.");
        WrappedHands x = Scenes.rich();
        x.sheet(0, 8, 40);
        for (int i = 0; i < 40; i++) {
            s.due("the first that doesn't", i + 1, x.judge(0, Scenes.WRAPPED));
            x.write(0, i, i < 7 && i % 2 == 1 ? 6 : 4);
        }
        s.due("all forty do", 0, x.judge(0, Scenes.WRAPPED));
        x.write(0, 39, 6);
        s.due("but the last", 40, x.judge(0, Scenes.WRAPPED));
        s.due("no day has gone", 2, x.now(0));
        x.sheet(0, 8, 0);
        s.due("no numbers", 0, x.judge(0, Scenes.WRAPPED));
        x.sheet(0, 16, 3);
        for (int i = 0; i < 3; i++) {
            x.write(0, i, 1);
        }
        s.due("by whom KEPT", 0, x.judge(0, Scenes.KEPT));
    }

    private void judgeRefused() {
        s.promise(46, "BEYOND: no such sheet.");
        s.refusedWith(Scenes.NO_SHEETS, Scenes::rich, Expect.BEYOND, "judge(?, 1)", (x, v) -> x.judge(v, 1));
        s.promise(46, "MISSING.");
        s.refusedWith(new int[] {Scenes.WRAPPED, -1, Scenes.NO_GIFT}, Scenes::rich, Expect.MISSING, "judge(3, ?)",
                (x, v) -> x.judge(Scenes.MISSING, v));
        s.promise(46, "BEYOND: no such GIFT.");
        s.refusedWith(Scenes.NO_GIFTS, Scenes::rich, Expect.BEYOND, "judge(0, ?)", (x, v) -> x.judge(0, v));
        s.refusedWith(Scenes.NO_GIFTS, Scenes::lastDay, Expect.BEYOND, "judge(0, ?) on DAY 9999",
                (x, v) -> x.judge(0, v));
        s.promise(46, "STATE: DAY would be above 9999.");
        s.refusedWith(new int[] {0, 1, 2, 4}, Scenes::lastDay, Expect.STATE, "judge(0, ?) on DAY 9999",
                (x, v) -> x.judge(0, v));
        WrappedHands x = Scenes.lastDay();
        x.sheet(0, 8, 0);
        s.due("no numbers on DAY 9999", 0, x.judge(0, Scenes.BARE));
        x.sheet(0, 8, 1);
        s.due("one on DAY 9999", Expect.STATE, x.judge(0, Scenes.BARE));
        WrappedHands z = Scenes.lastDays();
        z.sheet(0, 8, 9);
        s.due("nine on DAY 9990", 1, z.judge(0, Scenes.BARE));
        z.sheet(0, 8, 10);
        s.due("ten on DAY 9990", Expect.STATE, z.judge(0, Scenes.BARE));
    }
}
