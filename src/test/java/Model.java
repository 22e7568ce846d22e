import java.util.ArrayList;
import java.util.List;
import java.util.regex.Matcher;
import java.util.regex.Pattern;

/**
 * The document told a second time, in another form than the program: a world of lists that is copied
 * whole before anything is tried on it, and calls that throw their findings.
 */
final class Model {
    static final class Finding extends RuntimeException {
        private static final long serialVersionUID = 1L;
        final int code;

        Finding(int code) {
            this.code = code;
        }
    }

    private record Layer(int name, int hand) { }

    private static final class One {
        int kind;
        int next;
        int wish;
        int greed = 50;

        One copy() {
            One c = new One();
            c.kind = kind;
            c.next = next;
            c.wish = wish;
            c.greed = greed;
            return c;
        }
    }

    private static final class Present {
        int weight;
        int worth;
        int hand;
        boolean kept;
        int within = -1;
        List<Layer> layers = new ArrayList<>();

        Present copy() {
            Present c = new Present();
            c.weight = weight;
            c.worth = worth;
            c.hand = hand;
            c.kept = kept;
            c.within = within;
            c.layers = new ArrayList<>(layers);
            return c;
        }

        boolean held() {
            return !kept && within < 0;
        }
    }

    private static final class World {
        List<One> people = new ArrayList<>();
        List<Present> gifts = new ArrayList<>();
        int law = 9;
        int paper = 1;
        int day = 0;
        int z = 1;
        int[] spots = {-1, -1, -1, -1, -1, -1, -1, -1, -1, -1};
        int gone = -1;

        World copy() {
            World c = new World();
            for (One one : people) {
                c.people.add(one.copy());
            }
            for (Present g : gifts) {
                c.gifts.add(g.copy());
            }
            c.law = law;
            c.paper = paper;
            c.day = day;
            c.z = z;
            c.spots = spots.clone();
            return c;
        }

        boolean there(int p) {
            return 0 <= p && p < people.size();
        }

        boolean is(int p, int kind) {
            String line = new String[] {"0", "01", "02", "013", "024", "05", "056"}[people.get(p).kind];
            return line.contains("" + kind);
        }

        int weighs(int g) {
            int sum = gifts.get(g).weight + paper * gifts.get(g).layers.size();
            for (int i = 0; i < gifts.size(); i++) {
                sum += gifts.get(i).within == g ? weighs(i) : 0;
            }
            return sum;
        }

        int writes(int p, List<Layer> layers) {
            if (is(p, 5)) {
                return p;
            }
            boolean copies = is(p, 4) && !layers.isEmpty();
            return copies ? layers.get(layers.size() - 1).name : people.get(p).wish;
        }

        int hands(int p, List<Layer> layers) {
            int next = people.get(p).next;
            if (is(p, 2)) {
                return there(next) && next != gone ? people.get(next).next : next;
            }
            if (layers.isEmpty()) {
                return next;
            }
            Layer outmost = layers.get(layers.size() - 1);
            return is(p, 3) ? outmost.name : is(p, 6) ? outmost.hand : next;
        }

        boolean keeps(int p, int g) {
            List<Layer> layers = gifts.get(g).layers;
            boolean keeps = !layers.isEmpty() && layers.get(0).name == p || layers.size() >= law;
            if (is(p, 1) && weighs(g) >= people.get(p).greed) {
                keeps = true;
            }
            return keeps && !(is(p, 5) && layers.size() < 2);
        }

        void dayOf(int g) {
            Present gift = gifts.get(g);
            if (!gift.held()) {
                return;
            }
            int p = gift.hand;
            if (keeps(p, g)) {
                gift.kept = true;
                return;
            }
            List<Layer> before = new ArrayList<>(gift.layers);
            if (before.size() < 12) {
                gift.layers.add(new Layer(writes(p, before), p));
            }
            int to = hands(p, before);
            if (there(to) && to != gone) {
                gift.hand = to;
            }
        }

        void go(int days) {
            for (int d = 0; d < days; d++) {
                for (int g = 0; g < gifts.size(); g++) {
                    dayOf(g);
                }
            }
            day += days;
        }

        World ahead(int days) {
            World w = copy();
            w.go(days);
            return w;
        }

        /** By whom, or -1. */
        int fate(int g) {
            World w = copy();
            w.gone = gone;
            w.go(64);
            return w.gifts.get(g).kept ? w.gifts.get(g).hand : -1;
        }

        int layers() {
            int sum = 0;
            for (Present g : gifts) {
                sum += g.layers.size();
            }
            return sum;
        }

        int worthFor(int p) {
            int sum = 0;
            for (int g = 0; g < gifts.size(); g++) {
                sum += gifts.get(g).held() && fate(g) == p ? gifts.get(g).worth : 0;
            }
            return sum;
        }

        int draw() {
            z = z * 1103515245 + 12345;
            return z >>> 8;
        }
    }

    private static final class Row {
        int bits = 0;
        List<Integer> numbers = new ArrayList<>();
    }

    private static final int BEYOND = -1000001;
    private static final int FULL = -1000002;
    private static final int KIND = -1000003;
    private static final int NONE = -1000004;
    private static final int STATE = -1000005;
    private static final int MISSING = -1000006;
    private static final int SIZE = -1000007;

    private World w = new World();
    private World kept = null;
    private StringBuilder tape = new StringBuilder();
    private final Row[] rows = {new Row(), new Row(), new Row(), new Row()};
    private final int[] found = new int[7];

    private static void need(boolean holds, int otherwise) {
        if (!holds) {
            throw new Finding(otherwise);
        }
    }

    private static boolean in(int v, int least, int most) {
        return least <= v && v <= most;
    }

    private One one(int p) {
        need(w.there(p), BEYOND);
        return w.people.get(p);
    }

    private Present present(int g) {
        need(in(g, 0, w.gifts.size() - 1), BEYOND);
        return w.gifts.get(g);
    }

    private static int orNone(int v) {
        need(v >= 0, NONE);
        return v;
    }

    long call(String name, int[] a) {
        try {
            return answer(name, a);
        } catch (Finding f) {
            found[BEYOND - f.code]++;
            return f.code;
        }
    }

    private long answer(String name, int[] a) {
        switch (name) {
            case "person": return person(a[0]);
            case "of": return of(a[0], a[1]);
            case "change": return change(a[0], a[1], a[2]);
            case "gift": return gift(a[0], a[1], a[2]);
            case "giftOf": return giftOf(a[0], a[1]);
            case "layer": return layer(a[0], a[1], a[2]);
            case "rule": return rule(a[0], a[1]);
            case "send": return send(a[0], a[1]);
            case "open": return open(a[0]);
            case "skin": return skin(a[0], a[1]);
            case "writes": one(a[0]); return w.writes(a[0], present(a[1]).layers);
            case "hands": one(a[0]); return w.hands(a[0], present(a[1]).layers);
            case "keeps": one(a[0]); present(a[1]); return w.keeps(a[0], a[1]) ? 1 : 0;
            case "days": return days(a[0]);
            case "now": return now(a[0]);
            case "ahead": return ahead(a[0], a[1]);
            case "fate": held(a[0]); return orNone(w.fate(a[0]));
            case "when": return when(a[0]);
            case "seen": return seen(a[0]);
            case "senders": return senders(a[0], a[1]);
            case "fates": return fates(a[0]);
            case "wish": return wish(a[0], a[1]);
            case "turn": return turn(a[0], a[1], a[2]);
            case "ends": return ends(a[0]);
            case "law": return law(a[0]);
            default: return more(name, a);
        }
    }

    private long more(String name, int[] a) {
        switch (name) {
            case "rounds": return rounds();
            case "kindFor": return kindFor(a[0]);
            case "hopes": one(a[0]); return w.worthFor(a[0]);
            case "missed": return missed();
            case "writers": layer(a[0], a[1], 0); return writers(w, w.gifts.get(a[0]).layers, a[1]);
            case "ways": return ways(a[0]);
            case "forged": return forged(a[0]);
            case "guess": return guess(a[0], a[1]);
            case "wind": return wind(a[0]);
            case "seed": int was = w.z; w.z = a[0]; return was;
            case "feed": return feed(a[0], a[1]);
            case "wipe": int had = tape.length(); tape.setLength(0); return had;
            case "text": return text();
            case "hold": return hold(a[0], a[1]);
            case "as": return as(a[0], a[1]);
            case "sheet": return sheet(a[0], a[1], a[2]);
            case "write": return write(a[0], a[1], a[2]);
            case "copy": return copy(a);
            case "load": return load(a[0]);
            case "judge": return judge(a[0], a[1]);
            case "image": kept = w.copy(); return 1;
            case "undo": need(kept != null, NONE); w = kept.copy(); return w.day;
            case "tear": int some = kept == null ? 0 : 1; kept = null; return some;
            case "count": return count(a[0]);
            case "status": return status(a[0]);
            default: throw new IllegalArgumentException(name);
        }
    }

    private int person(int kind) {
        need(in(kind, 0, 6), BEYOND);
        need(w.people.size() < 8, FULL);
        return add(w, kind);
    }

    private static int add(World to, int kind) {
        One one = new One();
        one.kind = kind;
        one.next = (to.people.size() + 1) % 8;
        to.people.add(one);
        return to.people.size() - 1;
    }

    private int of(int p, int what) {
        One one = one(p);
        need(in(what, 0, 5), BEYOND);
        int set = 0;
        for (int g = 0; g < w.gifts.size(); g++) {
            Present gift = w.gifts.get(g);
            boolean asked = what == 4 ? gift.held() : gift.kept;
            set |= asked && gift.hand == p ? 1 << g : 0;
        }
        return new int[] {one.kind, one.next, one.wish, one.greed, set, set}[what];
    }

    private int change(int p, int what, int v) {
        need(in(what, 0, 3), BEYOND);
        int was = of(p, what);
        need(in(v, 0, new int[] {6, 7, 7, 99}[what]), BEYOND);
        One one = one(p);
        one.kind = what == 0 ? v : one.kind;
        one.next = what == 1 ? v : one.next;
        one.wish = what == 2 ? v : one.wish;
        one.greed = what == 3 ? v : one.greed;
        return was;
    }

    private int gift(int weight, int worth, int p) {
        need(in(weight, 1, 50) && in(worth, 0, 99) && w.there(p), BEYOND);
        need(w.gifts.size() < 5, FULL);
        return add(w, weight, worth, p);
    }

    private static int add(World to, int weight, int worth, int p) {
        Present gift = new Present();
        gift.weight = weight;
        gift.worth = worth;
        gift.hand = p;
        to.gifts.add(gift);
        return to.gifts.size() - 1;
    }

    private int giftOf(int g, int what) {
        Present gift = present(g);
        need(in(what, 0, 5), BEYOND);
        int how = gift.kept ? 1 : gift.within >= 0 ? 2 : 0;
        return new int[] {gift.weight, gift.worth, how == 2 ? -1 : gift.hand, how, gift.layers.size(),
            w.weighs(g)}[what];
    }

    private int layer(int g, int i, int what) {
        Present gift = present(g);
        need(in(i, 0, 11) && in(what, 0, 1), BEYOND);
        need(i < gift.layers.size(), NONE);
        return what == 0 ? gift.layers.get(i).name : gift.layers.get(i).hand;
    }

    private int rule(int what, int v) {
        need(what == 0 ? in(v, 1, 20) : what == 1 && in(v, 0, 9), BEYOND);
        int was = what == 0 ? w.law : w.paper;
        w.law = what == 0 ? v : w.law;
        w.paper = what == 1 ? v : w.paper;
        return was;
    }

    private Present held(int g) {
        Present gift = present(g);
        need(gift.held(), STATE);
        return gift;
    }

    private int send(int g, int p) {
        one(p);
        Present gift = held(g);
        int was = gift.hand;
        gift.hand = p;
        return was;
    }

    private int open(int g) {
        Present gift = held(g);
        need(!gift.layers.isEmpty(), NONE);
        return gift.layers.remove(gift.layers.size() - 1).name;
    }

    private int skin(int g, int within) {
        Present inner = present(g);
        Present outer = present(within);
        need(g != within, BEYOND);
        need(inner.held() && outer.held() && inner.hand == outer.hand
                && inner.layers.isEmpty() && outer.layers.isEmpty(), STATE);
        inner.within = within;
        return w.weighs(within);
    }

    private int days(int n) {
        need(in(n, 1, 60), BEYOND);
        need(w.day + n <= 9999, STATE);
        int before = Integer.bitCount(now(2));
        w.go(n);
        return Integer.bitCount(now(2)) - before;
    }

    private int now(int what) {
        need(in(what, 0, 6), BEYOND);
        int held = 0;
        int keptOnes = 0;
        int worth = 0;
        for (int g = 0; g < w.gifts.size(); g++) {
            held |= w.gifts.get(g).held() ? 1 << g : 0;
            keptOnes |= w.gifts.get(g).kept ? 1 << g : 0;
            worth += w.gifts.get(g).kept ? w.gifts.get(g).worth : 0;
        }
        return new int[] {w.day, held, keptOnes, w.layers(), w.law, w.paper, worth}[what];
    }

    private int ahead(int n, int what) {
        need(in(n, 0, 60) && in(what, 0, 1 + w.gifts.size()), BEYOND);
        need(w.day + n <= 9999, STATE);
        World then = w.ahead(n);
        World real = w;
        w = then;
        int answer = what == 0 ? now(2) : what == 1 ? now(3) : giftOf(what - 2, 2);
        w = real;
        return answer;
    }

    private int when(int g) {
        held(g);
        for (int d = 1; d <= 64; d++) {
            if (w.ahead(d).gifts.get(g).kept) {
                return d;
            }
        }
        throw new Finding(NONE);
    }

    private int seen(int g) {
        held(g);
        int set = 0;
        for (int d = 0; d <= 64; d++) {
            set |= 1 << w.ahead(d).gifts.get(g).hand;
        }
        return set;
    }

    private int fateFrom(int g, int p) {
        World c = w.copy();
        c.gifts.get(g).hand = p;
        return c.fate(g);
    }

    private int senders(int g, int person) {
        one(person);
        held(g);
        int set = 0;
        for (int p = 0; p < w.people.size(); p++) {
            set |= fateFrom(g, p) == person ? 1 << p : 0;
        }
        return set;
    }

    private int fates(int g) {
        held(g);
        int set = 0;
        for (int p = 0; p < w.people.size(); p++) {
            set |= fateFrom(g, p) >= 0 ? 1 << fateFrom(g, p) : 0;
        }
        return set;
    }

    private int wish(int g, int person) {
        one(person);
        Present gift = held(g);
        for (int v = 0; v <= 7; v++) {
            World c = w.copy();
            c.people.get(gift.hand).wish = v;
            if (c.fate(g) == person) {
                return v;
            }
        }
        throw new Finding(NONE);
    }

    private int fateTurned(int p, int next, int g) {
        World c = w.copy();
        c.people.get(p).next = next;
        return c.fate(g);
    }

    private int turn(int p, int g, int to) {
        one(p);
        one(to);
        held(g);
        for (int v = 0; v <= 7; v++) {
            if (fateTurned(p, v, g) == to) {
                return v;
            }
        }
        throw new Finding(NONE);
    }

    private int ends(int g) {
        held(g);
        need(w.fate(g) < 0, STATE);
        for (int i = 0; i < 8 * w.people.size(); i++) {
            if (fateTurned(i / 8, i % 8, g) >= 0) {
                return 10 * (i / 8) + i % 8;
            }
        }
        throw new Finding(NONE);
    }

    private int law(int g) {
        held(g);
        for (int v = 1; v <= 20; v++) {
            World c = w.copy();
            c.law = v;
            if (c.fate(g) != w.fate(g)) {
                return v;
            }
        }
        throw new Finding(NONE);
    }

    private int rounds() {
        int many = 0;
        for (int g = 0; g < w.gifts.size(); g++) {
            many += w.gifts.get(g).held() && w.fate(g) < 0 ? 1 : 0;
        }
        return many;
    }

    private int kindFor(int p) {
        one(p);
        int best = 0;
        int most = 0;
        for (int kind = 0; kind <= 6; kind++) {
            World c = w.copy();
            c.people.get(p).kind = kind;
            if (c.worthFor(p) > most) {
                most = c.worthFor(p);
                best = kind;
            }
        }
        return best;
    }

    private int missed() {
        need(!w.people.isEmpty(), NONE);
        int best = 0;
        int most = 0;
        for (int p = 0; p < w.people.size(); p++) {
            World c = w.copy();
            c.gone = p;
            int many = 0;
            for (int g = 0; g < w.gifts.size(); g++) {
                many += w.gifts.get(g).held() && c.fate(g) != w.fate(g) ? 1 : 0;
            }
            if (many > most) {
                most = many;
                best = p;
            }
        }
        return best;
    }

    private static int writers(World w, List<Layer> layers, int i) {
        int set = 0;
        for (int p = 0; p < w.people.size(); p++) {
            set |= w.writes(p, layers.subList(0, i)) == layers.get(i).name ? 1 << p : 0;
        }
        return set;
    }

    private long ways(int g) {
        List<Layer> layers = present(g).layers;
        long ways = 1;
        for (int i = 0; i < layers.size(); i++) {
            ways *= Integer.bitCount(writers(w, layers, i));
        }
        return ways;
    }

    private int forged(int g) {
        List<Layer> layers = present(g).layers;
        int set = 0;
        for (int i = 0; i < layers.size(); i++) {
            boolean among = (writers(w, layers, i) & 1 << layers.get(i).hand) != 0;
            set |= among ? 0 : 1 << i;
        }
        return set;
    }

    private int guess(int g, int weight) {
        int papers = w.paper * present(g).layers.size();
        int bare = w.weighs(g) - papers;
        need(in(weight, 0, 999), BEYOND);
        if (weight == bare) {
            return 0;
        }
        need(w.paper > 0 && weight > bare && (weight - bare) % w.paper == 0, NONE);
        need((weight - bare) / w.paper <= 12, NONE);
        return (weight - bare) / w.paper;
    }

    private int wind(int n) {
        need(in(n, 1, 12), BEYOND);
        need(!w.gifts.isEmpty() && !w.people.isEmpty(), STATE);
        for (int i = 0; i < n; i++) {
            Present gift = w.gifts.get(w.draw() % w.gifts.size());
            int p = w.draw() % w.people.size();
            gift.hand = gift.held() ? p : gift.hand;
        }
        return w.layers();
    }

    private int feed(int bytes, int n) {
        need(in(n, 1, 4), BEYOND);
        need(tape.length() + n <= 120, FULL);
        for (int i = n; i > 0; i--) {
            tape.append((char) (bytes >> 8 * (i - 1) & 255));
        }
        return tape.length();
    }

    private static final Pattern TOKEN = Pattern.compile(" *([a-z]+|[0-9]+|;|$|[^ ])");
    private static final List<String> KINDS =
            List.of("hand", "keeping", "blind", "inlaw", "forging", "child", "imp");

    private List<String> tokens;
    private List<Integer> places;
    private int at;

    private static final class Fault extends Exception {
        private static final long serialVersionUID = 1L;
    }

    private int text() {
        String all = tape.toString();
        tape = new StringBuilder();
        tokens = new ArrayList<>();
        places = new ArrayList<>();
        Matcher m = TOKEN.matcher(all);
        for (int from = 0; from >= 0 && m.find(from); from = m.group(1).isEmpty() ? -1 : m.end()) {
            tokens.add(m.group(1));
            places.add(m.start(1));
        }
        at = 0;
        World then = w.copy();
        try {
            int items = 1;
            item(then);
            for (; tokens.get(at).equals(";"); items++) {
                at++;
                item(then);
            }
            stand(tokens.get(at).isEmpty());
            w = then;
            return items;
        } catch (Fault f) {
            return -1 - places.get(at);
        }
    }

    private static void stand(boolean holds) throws Fault {
        if (!holds) {
            throw new Fault();
        }
    }

    private void item(World then) throws Fault {
        String word = tokens.get(at);
        if (KINDS.contains(word)) {
            stand(then.people.size() < 8);
            at++;
            One one = then.people.get(add(then, KINDS.indexOf(word)));
            one.next = perhaps("next", 7, one.next);
            one.wish = perhaps("wish", 7, 0);
            one.greed = perhaps("greed", 99, 50);
        } else if (word.equals("gift")) {
            stand(then.gifts.size() < 5 && !then.people.isEmpty());
            at++;
            int weight = number(1, 50);
            int worth = perhaps("worth", 99, 0);
            add(then, weight, worth, perhaps("with", then.people.size() - 1, 0));
        } else if (word.equals("law")) {
            at++;
            then.law = number(1, 20);
        } else {
            stand(word.equals("paper"));
            at++;
            then.paper = number(0, 9);
        }
    }

    private int perhaps(String word, int most, int otherwise) throws Fault {
        if (!tokens.get(at).equals(word)) {
            return otherwise;
        }
        at++;
        return number(0, most);
    }

    private int number(int least, int most) throws Fault {
        String digits = tokens.get(at);
        stand(digits.matches("0*[0-9]{1,3}") && in(Integer.parseInt(digits), least, most));
        at++;
        return Integer.parseInt(digits);
    }

    private int hold(int spot, int p) {
        need(in(spot, 0, 9) && (p == -1 || w.there(p)), BEYOND);
        w.spots[spot] = p;
        return 1;
    }

    private int as(int spot, int kind) {
        need(in(spot, 0, 9) && in(kind, 0, 6), BEYOND);
        need(w.spots[spot] >= 0, MISSING);
        need(w.is(w.spots[spot], kind), KIND);
        return w.spots[spot];
    }

    private int sheet(int s, int bits, int n) {
        need(in(s, 0, 3) && List.of(0, 8, 16, 32).contains(bits), BEYOND);
        need(n >= 0, SIZE);
        need(n <= 40, BEYOND);
        rows[s] = new Row();
        rows[s].bits = bits;
        for (int i = 0; i < n && bits > 0; i++) {
            rows[s].numbers.add(0);
        }
        return rows[s].numbers.size();
    }

    private Row row(int s) {
        need(in(s, 0, 3), BEYOND);
        need(rows[s].bits > 0, MISSING);
        return rows[s];
    }

    private int write(int s, int i, int v) {
        Row row = row(s);
        need(in(i, 0, row.numbers.size() - 1), BEYOND);
        int cut = 32 - row.bits;
        row.numbers.set(i, v << cut >> cut);
        return 1;
    }

    private int copy(int[] a) {
        need(in(a[0], 0, 3) && in(a[2], 0, 3), BEYOND);
        Row source = row(a[0]);
        Row goal = row(a[2]);
        need(source.bits == goal.bits, KIND);
        int n = a[4];
        need(a[1] >= 0 && a[3] >= 0 && n >= 0, BEYOND);
        need((long) a[1] + n <= source.numbers.size() && (long) a[3] + n <= goal.numbers.size(), BEYOND);
        List<Integer> some = new ArrayList<>(source.numbers.subList(a[1], a[1] + n));
        for (int i = 0; i < n; i++) {
            goal.numbers.set(a[3] + i, some.get(i));
        }
        return n;
    }

    private int load(int s) {
        int came = 0;
        for (int v : row(s).numbers) {
            if (!in(v, 0, 7) || came >= w.people.size()) {
                break;
            }
            w.people.get(came).wish = v;
            came++;
        }
        return came;
    }

    private int judge(int s, int g) {
        List<Integer> numbers = row(s).numbers;
        present(g);
        need(w.day + numbers.size() <= 9999, STATE);
        for (int i = 0; i < numbers.size(); i++) {
            if (ahead(i + 1, 2 + g) != numbers.get(i)) {
                return i + 1;
            }
        }
        return 0;
    }

    private int count(int what) {
        need(in(what, 0, 7), BEYOND);
        int worth = 0;
        for (Present g : w.gifts) {
            worth += g.worth;
        }
        int spots = 0;
        for (int p : w.spots) {
            spots += p >= 0 ? 1 : 0;
        }
        return new int[] {w.day, w.people.size(), w.gifts.size(), w.layers(), worth, tape.length(), w.z,
            spots}[what];
    }

    private int status(int which) {
        need(in(which, -1, 6), BEYOND);
        int all = 0;
        for (int f : found) {
            all += f;
        }
        return which < 0 ? all : found[which];
    }
}
