import java.util.ArrayList;
import java.util.List;

/** All promises: long runs of calls, each answer held against the model's; some of them of wild inputs. */
public final class ModelTest {
    private static final Expect expect = new Expect("ModelTest");
    private static final int RUNS = 800;
    private static final int CALLS = 512;

    private static final String[] NAMES = {
        "person", "of", "change", "gift", "giftOf", "layer", "rule", "send", "open", "skin", "writes", "hands",
        "keeps", "days", "now", "ahead", "fate", "when", "seen", "senders", "fates", "wish", "turn", "ends",
        "law", "rounds", "kindFor", "hopes", "missed", "writers", "ways", "forged", "guess", "wind", "seed",
        "feed", "wipe", "text", "hold", "as", "sheet", "write", "copy", "load", "judge", "image", "undo", "tear",
        "count", "status"};

    /** Calls that would take back too much of what a run has come to. */
    private static final List<String> RARE = List.of("undo", "wipe", "tear");

    private static final String[] SCRAPS = {
        "hand", "keeping", "blind", "inlaw", "forging", "child", "imp", ";", ";", ";", " ", " ", "next ", "wish ",
        "greed ", "gift ", " worth ", " with ", "law ", "paper ", "0", "1", "3", "7", "20", "50", "99", "100"};

    private static long dice = 20261118L;
    private static List<String> log;

    private static int roll(int sides) {
        dice = dice * 6364136223846793005L + 1442695040888963407L;
        return (int) ((dice >>> 33) % sides);
    }

    public static void main(String[] args) {
        for (int run = 0; run < RUNS; run++) {
            run(run);
        }
        expect.close();
    }

    /** Runs differ in how wild their inputs are, and in how often time passes. */
    private static void run(int run) {
        WrappedHands x = new WrappedHands();
        Model y = new Model();
        log = new ArrayList<>();
        int wild = run % 4 == 3 ? 3 : 40;
        int haste = run % 3;
        boolean alike = begin(x, y, run % 2 == 0 ? 50 : 9);
        while (alike && log.size() < CALLS) {
            String name = NAMES[roll(NAMES.length)];
            if (haste < 2 && name.equals("days") && roll(3) > haste) {
                name = "wish";
            }
            if (RARE.contains(name) && roll(3) > 0) {
                name = "ends";
            }
            if (name.equals("feed") && roll(2) == 0) {
                alike = feedScraps(x, y);
            } else {
                alike = call(x, y, name, inputs(name, wild));
            }
        }
        expect.due("run " + run + ", call " + log.size(), 1, alike ? 1 : 0);
    }

    private static boolean begin(WrappedHands x, Model y, int weight) {
        boolean alike = true;
        int many = roll(9);
        for (int p = 0; p < many && alike; p++) {
            alike = call(x, y, "person", new int[] {roll(7), 0, 0, 0, 0});
        }
        for (int g = roll(6); g > 0 && alike; g--) {
            alike = call(x, y, "gift", new int[] {1 + roll(weight), roll(100), roll(1 + roll(8)), 0, 0});
        }
        for (int s = roll(4); s > 0 && alike; s--) {
            alike = call(x, y, "skin", new int[] {roll(5), roll(5), 0, 0, 0});
        }
        return alike;
    }

    private static boolean feedScraps(WrappedHands x, Model y) {
        boolean alike = roll(2) == 0 || call(x, y, "wipe", new int[5]);
        StringBuilder text = new StringBuilder();
        if (roll(2) == 0) {
            for (int i = roll(9); i >= 0; i--) {
                text.append(SCRAPS[roll(SCRAPS.length)]);
            }
        } else {
            text.append(goodText());
        }
        for (int i = 0; i < text.length() && alike; i++) {
            alike = call(x, y, "feed", new int[] {text.charAt(i), 1, 0, 0, 0});
        }
        return alike && (roll(2) == 0 || call(x, y, "text", new int[5]));
    }

    private static String goodText() {
        StringBuilder text = new StringBuilder();
        for (int i = roll(3); i >= 0; i--) {
            if (roll(2) == 0) {
                text.append(SCRAPS[roll(7)]);
                text.append(roll(2) == 0 ? "" : " next " + roll(8));
                text.append(roll(2) == 0 ? "" : " wish " + roll(8));
                text.append(roll(2) == 0 ? "" : " greed " + roll(100));
            } else if (roll(2) == 0) {
                text.append("gift ").append(1 + roll(50));
                text.append(roll(2) == 0 ? "" : " worth " + roll(100));
                text.append(roll(2) == 0 ? "" : " with " + roll(8));
            } else {
                text.append(roll(2) == 0 ? "law " + roll(22) : "paper " + roll(11));
            }
            text.append(i > 0 ? " ; " : "");
        }
        return text.toString();
    }

    private static int[] inputs(String name, int wild) {
        int[] a = {roll(8), roll(8), roll(8), roll(8), roll(8)};
        switch (name) {
            case "person": a[0] = roll(7); break;
            case "of": a[1] = roll(6); break;
            case "change": a[1] = roll(4); a[2] = a[1] == 3 ? roll(100) : roll(8); break;
            case "gift": a[0] = 1 + roll(50); a[1] = roll(100); break;
            case "layer": case "writers": a[0] = roll(5); a[1] = roll(12); a[2] = roll(2); break;
            case "rule": a[0] = roll(2); a[1] = roll(21); break;
            case "writes": case "hands": case "keeps": case "turn": case "judge": a[1] = roll(5); break;
            case "days": a[0] = 1 + roll(roll(4) == 0 ? 60 : 3); break;
            case "ahead": a[0] = roll(roll(2) == 0 ? 61 : 12); a[1] = roll(7); break;
            case "guess": a[0] = roll(5); a[1] = roll(80); break;
            case "wind": a[0] = 1 + roll(12); break;
            case "seed": a[0] = roll(1 << 30) * 4 + roll(4); break;
            case "hold": a[0] = roll(10); a[1] = roll(9) - 1; break;
            case "as": a[0] = roll(10); a[1] = roll(7); break;
            case "sheet": a[0] = roll(4); a[1] = new int[] {0, 8, 16, 16, 32}[roll(5)]; a[2] = roll(41); break;
            case "write": a[0] = roll(4); a[1] = roll(9); a[2] += roll(2) * (roll(1 << 30) << 6); break;
            case "copy": a[0] = roll(4); a[2] = roll(4); break;
            case "load": a[0] = roll(4); break;
            case "status": a[0] = roll(8) - 1; break;
            case "count": case "now": case "kindFor": case "hopes": break;
            default: a[0] = roll(5); break;
        }
        if (roll(wild) == 0) {
            a[roll(5)] = Expect.WILD[roll(Expect.WILD.length)];
        }
        return a;
    }

    private static boolean call(WrappedHands x, Model y, String name, int[] a) {
        long want = y.call(name, a);
        long got = real(x, name, a);
        log.add(name + "(" + a[0] + ", " + a[1] + ", " + a[2] + ", " + a[3] + ", " + a[4] + ")");
        if (want != got) {
            System.out.println(String.join("\n", log));
            expect.due(log.get(log.size() - 1), want, got);
        }
        return want == got;
    }

    private static long real(WrappedHands x, String name, int[] a) {
        switch (name) {
            case "person": return x.person(a[0]);
            case "of": return x.of(a[0], a[1]);
            case "change": return x.change(a[0], a[1], a[2]);
            case "gift": return x.gift(a[0], a[1], a[2]);
            case "giftOf": return x.giftOf(a[0], a[1]);
            case "layer": return x.layer(a[0], a[1], a[2]);
            case "rule": return x.rule(a[0], a[1]);
            case "send": return x.send(a[0], a[1]);
            case "open": return x.open(a[0]);
            case "skin": return x.skin(a[0], a[1]);
            case "writes": return x.writes(a[0], a[1]);
            case "hands": return x.hands(a[0], a[1]);
            case "keeps": return x.keeps(a[0], a[1]);
            case "days": return x.days(a[0]);
            case "now": return x.now(a[0]);
            case "ahead": return x.ahead(a[0], a[1]);
            case "fate": return x.fate(a[0]);
            case "when": return x.when(a[0]);
            case "seen": return x.seen(a[0]);
            case "senders": return x.senders(a[0], a[1]);
            case "fates": return x.fates(a[0]);
            case "wish": return x.wish(a[0], a[1]);
            case "turn": return x.turn(a[0], a[1], a[2]);
            case "ends": return x.ends(a[0]);
            case "law": return x.law(a[0]);
            case "rounds": return x.rounds();
            case "kindFor": return x.kindFor(a[0]);
            case "hopes": return x.hopes(a[0]);
            case "missed": return x.missed();
            case "writers": return x.writers(a[0], a[1]);
            case "ways": return x.ways(a[0]);
            case "forged": return x.forged(a[0]);
            case "guess": return x.guess(a[0], a[1]);
            case "wind": return x.wind(a[0]);
            case "seed": return x.seed(a[0]);
            case "feed": return x.feed(a[0], a[1]);
            case "wipe": return x.wipe();
            case "text": return x.text();
            case "hold": return x.hold(a[0], a[1]);
            case "as": return x.as(a[0], a[1]);
            case "sheet": return x.sheet(a[0], a[1], a[2]);
            case "write": return x.write(a[0], a[1], a[2]);
            case "copy": return x.copy(a[0], a[1], a[2], a[3], a[4]);
            case "load": return x.load(a[0]);
            case "judge": return x.judge(a[0], a[1]);
            case "image": return x.image();
            case "undo": return x.undo();
            case "tear": return x.tear();
            case "count": return x.count(a[0]);
            case "status": return x.status(a[0]);
            default: throw new IllegalArgumentException(name);
        }
    }
}
