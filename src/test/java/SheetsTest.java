/** Promises 40 to 46: spots and sheets. */
public final class SheetsTest {
    private static final Expect expect = new Expect("SheetsTest");

    public static void main(String[] args) {
        hold();
        as();
        sheet();
        writeAndTheBits();
        writeFindings();
        copy();
        copyOverItself();
        copyFindings();
        load();
        judge();
        judgeFindings();
        expect.close();
    }

    private static void hold() {
        WrappedHands x = Coasts.hands(2);
        expect.due("hold(0, 1)", 1, x.hold(0, 1));
        expect.due("hold(9, 0)", 1, x.hold(9, 0));
        expect.due("spots", 2, x.count(7));
        expect.due("hold(0, -1)", 1, x.hold(0, -1));
        expect.due("hold(5, -1)", 1, x.hold(5, -1));
        expect.due("spots then", 1, x.count(7));
        expect.due("nothing in it", Expect.MISSING, x.as(0, 0));
        expect.due("hold(10, 0)", Expect.BEYOND, x.hold(10, 0));
        expect.due("hold(-1, 0)", Expect.BEYOND, x.hold(-1, 0));
        expect.due("hold(0, 2)", Expect.BEYOND, x.hold(0, 2));
        expect.due("hold(0, -2)", Expect.BEYOND, x.hold(0, -2));
        expect.due("hold(10, -1)", Expect.BEYOND, x.hold(10, -1));
    }

    private static void as() {
        String[] kindsOf = {"0", "10", "20", "310", "420", "50", "650"};
        WrappedHands x = new WrappedHands();
        for (int kind = 0; kind < 7; kind++) {
            x.person(kind);
            x.hold(kind, kind);
            for (int asked = 0; asked < 7; asked++) {
                boolean is = kindsOf[kind].indexOf('0' + asked) >= 0;
                expect.due("as(" + kind + ", " + asked + ")", is ? kind : Expect.KIND, x.as(kind, asked));
            }
        }
        x.change(6, 0, Coasts.HAND);
        expect.due("the KIND of now", Expect.KIND, x.as(6, Coasts.CHILD));
        x.change(6, 0, Coasts.IN_LAW);
        expect.due("IN LAW is KEEPING", 6, x.as(6, Coasts.KEEPING));
        expect.due("as(9, 0)", Expect.MISSING, x.as(9, 0));
        expect.due("as(10, 0)", Expect.BEYOND, x.as(10, 0));
        expect.due("as(-1, 0)", Expect.BEYOND, x.as(-1, 0));
        expect.due("as(9, 7)", Expect.BEYOND, x.as(9, 7));
        expect.due("as(0, -1)", Expect.BEYOND, x.as(0, -1));
    }

    private static void sheet() {
        WrappedHands x = Coasts.hands(3);
        expect.due("sheet(0, 8, 40)", 40, x.sheet(0, 8, 40));
        expect.due("sheet(3, 32, 0)", 0, x.sheet(3, 32, 0));
        expect.due("of no numbers, but there", 0, x.load(3));
        expect.due("sheet(0, 8, 41)", Expect.BEYOND, x.sheet(0, 8, 41));
        expect.due("sheet(0, 16, -1)", Expect.SIZE, x.sheet(0, 16, -1));
        expect.due("sheet(0, 0, -1)", Expect.SIZE, x.sheet(0, 0, -1));
        expect.due("sheet(0, 0, 41)", Expect.BEYOND, x.sheet(0, 0, 41));
        expect.due("sheet(0, 7, 3)", Expect.BEYOND, x.sheet(0, 7, 3));
        expect.due("sheet(0, 64, -1)", Expect.BEYOND, x.sheet(0, 64, -1));
        expect.due("sheet(4, 8, -1)", Expect.BEYOND, x.sheet(4, 8, -1));
        expect.due("sheet(-1, 8, 3)", Expect.BEYOND, x.sheet(-1, 8, 3));
        expect.due("still 40", 1, x.write(0, 39, 1));
        expect.due("sheet(0, 0, 40)", 0, x.sheet(0, 0, 40));
        expect.due("it is MISSING", Expect.MISSING, x.load(0));
        expect.due("three of 16", 3, x.sheet(1, 16, 3));
        x.write(1, 0, 5);
        expect.due("three again", 3, x.sheet(1, 16, 3));
        expect.due("all 0", 3, x.load(1));
        expect.due("WISH of 0", 0, x.of(0, 2));
    }

    /** A sheet's number is told by whether it names who has the gift, or none of PEOPLE. */
    private static void writeAndTheBits() {
        int[] bits = {8, 16, 32};
        for (int b : bits) {
            WrappedHands x = Coasts.of(Coasts.HAND);
            x.gift(1, 0, 0);
            x.gift(1, 0, 0);
            x.skin(0, 1);
            x.sheet(0, b, 1);
            int all = b == 32 ? -1 : (1 << b) - 1;
            expect.due("write of " + b + " bits", 1, x.write(0, 0, all));
            expect.due("all bits are -1", 0, x.judge(0, 0));
            x.write(0, 0, all >>> 1);
            expect.due("without the sign they aren't", 1, x.judge(0, 0));
            x.write(0, 0, 1 << b - 1);
            expect.due("nor the sign alone", 1, x.judge(0, 0));
            x.write(0, 0, b == 32 ? 0 : 1 << b);
            expect.due("higher bits are cut", 0, x.judge(0, 1));
            x.write(0, 0, -1 << b / 2);
            expect.due("lower bits stay", 1, x.judge(0, 0));
            x.write(0, 0, 0x01010107);
            int due = b == 8 ? 1 : 0;
            expect.due("7 of " + b + " bits", due, x.load(0));
            expect.due("WISH of 0", 7 * due, x.of(0, 2));
        }
    }

    private static void writeFindings() {
        WrappedHands x = new WrappedHands();
        expect.due("write(4, 0, 0)", Expect.BEYOND, x.write(4, 0, 0));
        expect.due("write(-1, 0, 0)", Expect.BEYOND, x.write(-1, 0, 0));
        expect.due("write(0, 50, 0)", Expect.MISSING, x.write(0, 50, 0));
        x.sheet(0, 8, 3);
        expect.due("write(0, 3, 0)", Expect.BEYOND, x.write(0, 3, 0));
        expect.due("write(0, -1, 0)", Expect.BEYOND, x.write(0, -1, 0));
        expect.due("write(0, 2, 0)", 1, x.write(0, 2, 0));
    }

    private static WrappedHands withSheet(int... numbers) {
        WrappedHands x = Coasts.hands(8);
        x.sheet(0, 32, numbers.length);
        for (int i = 0; i < numbers.length; i++) {
            x.write(0, i, numbers[i]);
        }
        return x;
    }

    /** The numbers of a sheet, each 0 to 7, as digits. */
    private static int told(WrappedHands x, int s) {
        int came = x.load(s);
        int digits = 1;
        for (int p = 0; p < came; p++) {
            digits = digits * 10 + x.of(p, 2);
        }
        return digits;
    }

    private static void copy() {
        WrappedHands x = withSheet(1, 2, 3, 4, 5);
        x.sheet(3, 32, 6);
        expect.due("copy(0, 1, 3, 2, 3)", 3, x.copy(0, 1, 3, 2, 3));
        expect.due("the other one", 1002340, told(x, 3));
        expect.due("this one", 112345, told(x, 0));
        expect.due("none", 0, x.copy(0, 5, 3, 6, 0));
        x.sheet(1, 32, 40);
        x.write(1, 39, 6);
        expect.due("the last of forty", 1, x.copy(1, 39, 1, 0, 1));
        expect.due("its number", 160000000, told(x, 1));
        expect.due("back again", 1, x.copy(3, 4, 0, 4, 1));
        expect.due("4 where 5 was", 112344, told(x, 0));
        x.write(0, 4, 5);
        expect.due("all", 5, x.copy(0, 0, 3, 0, 5));
        expect.due("all came", 1123450, told(x, 3));
    }

    private static void copyOverItself() {
        WrappedHands x = withSheet(1, 2, 3, 4, 5);
        expect.due("upwards", 4, x.copy(0, 0, 0, 1, 4));
        expect.due("as they all were", 111234, told(x, 0));
        expect.due("downwards", 3, x.copy(0, 2, 0, 0, 3));
        expect.due("as they were", 123434, told(x, 0));
    }

    private static void copyFindings() {
        WrappedHands x = withSheet(1, 2, 3);
        expect.due("copy(4, ..)", Expect.BEYOND, x.copy(4, 0, 1, 0, 1));
        expect.due("copy(0, 0, 4, ..)", Expect.BEYOND, x.copy(0, 0, 4, 0, 1));
        expect.due("copy(-1, ..)", Expect.BEYOND, x.copy(-1, 0, 1, 0, 1));
        expect.due("copy(1, 0, -1, ..)", Expect.BEYOND, x.copy(1, 0, -1, 0, 1));
        expect.due("the other is MISSING", Expect.MISSING, x.copy(0, 0, 1, 0, 9));
        expect.due("this is MISSING", Expect.MISSING, x.copy(1, 0, 0, 0, 9));
        x.sheet(1, 16, 3);
        expect.due("other bits", Expect.KIND, x.copy(0, 0, 1, 0, 9));
        x.sheet(1, 32, 2);
        int[][] beyond = {
            {0, 0, 3}, {2, 0, 2}, {0, 1, 2}, {-1, 0, 1}, {0, -1, 1}, {0, 0, -1}, {4, 0, 0}, {0, 3, 0},
            {Integer.MAX_VALUE, 0, 1}, {1, 0, Integer.MAX_VALUE}, {0, Integer.MAX_VALUE, 2},
            {Integer.MIN_VALUE, 0, 1}, {0, 0, Integer.MIN_VALUE}};
        for (int[] run : beyond) {
            expect.due("copy " + run[0] + " " + run[1] + " " + run[2], Expect.BEYOND,
                    x.copy(0, run[0], 1, run[1], run[2]));
        }
        expect.due("at the ends", 0, x.copy(0, 3, 1, 2, 0));
        expect.due("nothing came", 100, told(x, 1));
    }

    private static void load() {
        WrappedHands x = withSheet(7, 0, 3, 8, 1);
        x.change(1, 2, 5);
        x.change(3, 2, 6);
        expect.due("up to the 8", 3, x.load(0));
        int[] due = {7, 0, 3, 6, 0};
        for (int p = 0; p < due.length; p++) {
            expect.due("WISH of " + p, due[p], x.of(p, 2));
        }
        x.write(0, 0, -1);
        expect.due("up to the -1", 0, x.load(0));
        WrappedHands y = Coasts.hands(2);
        y.sheet(2, 8, 40);
        y.write(2, 1, 4);
        y.write(2, 2, 4);
        expect.due("up to nobody", 2, y.load(2));
        expect.due("WISH of 1", 4, y.of(1, 2));
        expect.due("load(4)", Expect.BEYOND, y.load(4));
        expect.due("load(-1)", Expect.BEYOND, y.load(-1));
        expect.due("load(0)", Expect.MISSING, y.load(0));
    }

    /** Gift 0 goes 1, 2 and is KEPT by 2; gift 1 lies in gift 2. */
    private static void judge() {
        WrappedHands x = Coasts.hands(3);
        x.change(0, 2, 2);
        x.gift(1, 0, 0);
        x.gift(1, 0, 0);
        x.gift(1, 0, 0);
        x.skin(1, 2);
        x.sheet(0, 8, 5);
        int[] way = {1, 2, 2, 2, 2};
        for (int i = 0; i < way.length; i++) {
            expect.due("the first untrue", i + 1, x.judge(0, 0));
            x.write(0, i, way[i]);
        }
        expect.due("all true", 0, x.judge(0, 0));
        expect.due("nothing has gone", 0, x.giftOf(0, 4));
        x.write(0, 2, 1);
        expect.due("in the middle", 3, x.judge(0, 0));
        x.write(0, 0, 0);
        expect.due("the first of two", 1, x.judge(0, 0));
        x.sheet(1, 8, 0);
        expect.due("no numbers", 0, x.judge(1, 0));
        x.sheet(2, 8, 2);
        x.write(2, 0, 2);
        x.send(2, 1);
        expect.due("gift 2 goes from 1 to 2 and 0", 0, x.judge(2, 2));
        x.sheet(1, 16, 2);
        x.write(1, 0, -1);
        expect.due("WITHIN is -1, as in ahead()", 2, x.judge(1, 1));
    }

    private static void judgeFindings() {
        WrappedHands x = Coasts.hands(1);
        expect.due("judge(4, 0)", Expect.BEYOND, x.judge(4, 0));
        expect.due("judge(-1, 0)", Expect.BEYOND, x.judge(-1, 0));
        expect.due("MISSING is asked before the gift", Expect.MISSING, x.judge(0, 0));
        x.sheet(0, 8, 40);
        expect.due("no gift", Expect.BEYOND, x.judge(0, 0));
        expect.due("judge(0, -1)", Expect.BEYOND, x.judge(0, -1));
        for (int i = 0; i < 166; i++) {
            x.days(60);
        }
        expect.due("the gift is asked before STATE", Expect.BEYOND, x.judge(0, 0));
        x.gift(1, 0, 0);
        expect.due("DAY would be 10000", Expect.STATE, x.judge(0, 0));
        x.sheet(0, 8, 39);
        expect.due("DAY would be 9999", 0, x.judge(0, 0));
    }
}
