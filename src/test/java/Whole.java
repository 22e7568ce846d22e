/** All that a coast's calls can tell, as one text. It costs some 250 calls and leaves the coast changed. */
final class Whole {
    private Whole() {
    }

    static String of(WrappedHands x) {
        StringBuilder all = new StringBuilder();
        people(x, all);
        gifts(x, all);
        sheets(x, all);
        all.append(" text ").append(x.text()).append(' ').append(x.now(4)).append(' ').append(x.now(5));
        all.append(" undo ").append(x.undo());
        people(x, all);
        gifts(x, all);
        return all.append(" tear ").append(x.tear()).append(' ').append(x.undo()).toString();
    }

    private static void people(WrappedHands x, StringBuilder all) {
        for (int what = 0; what <= 7; what++) {
            all.append(' ').append(x.count(what));
        }
        for (int what = 0; what <= 6; what++) {
            all.append(' ').append(x.now(what));
        }
        for (int p = 0; p < x.count(1); p++) {
            all.append(" one ").append(p);
            for (int what = 0; what <= 5; what++) {
                all.append(' ').append(x.of(p, what));
            }
        }
        for (int spot = 0; spot <= 9; spot++) {
            all.append(' ').append(x.as(spot, 0));
        }
    }

    private static void gifts(WrappedHands x, StringBuilder all) {
        for (int g = 0; g < x.count(2); g++) {
            all.append(" gift ").append(g);
            for (int what = 0; what <= 5; what++) {
                all.append(' ').append(x.giftOf(g, what));
            }
            int layers = x.giftOf(g, 4);
            for (int i = 0; i < layers; i++) {
                all.append(' ').append(x.layer(g, i, 0)).append(" by ").append(x.layer(g, i, 1));
            }
        }
    }

    /** Of a sheet: the numbers (0 to 7) that can become wishes, how many there are, who has as many bits. */
    private static void sheets(WrappedHands x, StringBuilder all) {
        for (int s = 0; s <= 3; s++) {
            all.append(" sheet ").append(s);
            for (int p = 0; p < x.count(1); p++) {
                x.change(p, 2, 7);
            }
            all.append(' ').append(x.load(s));
            for (int p = 0; p < x.count(1); p++) {
                all.append(' ').append(x.of(p, 2));
            }
            int length = 0;
            while (length <= 40 && x.write(s, length, 0) == 1) {
                length++;
            }
            all.append(" of ").append(length);
            for (int t = 0; t <= 3; t++) {
                all.append(' ').append(x.copy(s, 0, t, 0, 0));
            }
        }
    }
}
