/**
 * A coast where gifts are wrapped at every hand. The public methods ask for their findings in the
 * document's order and leave the work to the classes inside. Every row is made in a constructor and
 * used again, so that no call makes an object.
 */
public final class WrappedHands {
    private static final int BEYOND = -1000001;
    private static final int FULL = BEYOND - 1;
    private static final int KIND = BEYOND - 2;
    private static final int NONE = BEYOND - 3;
    private static final int STATE = BEYOND - 4;
    private static final int MISSING = BEYOND - 5;
    private static final int SIZE = BEYOND - 6;
    private static final int FINDINGS = 7;
    private static final int NO_FINDING = 0;

    private static final int MOST_PEOPLE = 8;
    private static final int MOST_GIFTS = 5;
    private static final int MOST_LAYERS = 12;
    private static final int MOST_WEIGHT = 50;
    private static final int MOST_WORTH = 99;
    private static final int MOST_GREED = 99;
    private static final int MOST_LAW = 20;
    private static final int MOST_PAPER = 9;
    private static final int MOST_WEIGHED = 999;
    private static final int LAST_NAME = 7;
    private static final int LAST_DAY = 9999;
    private static final int MOST_DAYS = 60;
    private static final int FATE_DAYS = 64;
    private static final int MOST_WINDS = 12;
    private static final int TAPE_SIZE = 120;
    private static final int SPOTS = 10;
    private static final int SHEETS = 4;
    private static final int SHEET_SIZE = 40;

    private static final int NOBODY = -1;
    private static final int ANYBODY = -2;

    private static final int HAND = 0;
    private static final int KEEPING = 1;
    private static final int BLIND = 2;
    private static final int IN_LAW = 3;
    private static final int FORGING = 4;
    private static final int CHILD = 5;
    private static final int IMP = 6;
    private static final int KINDS = 7;
    private static final int[] KIND_ABOVE = {-1, HAND, HAND, KEEPING, BLIND, HAND, CHILD};

    private static final int IN_HAND = 0;
    private static final int KEPT = 1;
    private static final int WITHIN = 2;

    private static final int TOKEN_END = 0;
    private static final int TOKEN_WORD = 1;
    private static final int TOKEN_NUMBER = 2;
    private static final int TOKEN_SIGN = 3;
    private static final int TOKEN_OTHER = 4;
    private static final int TOKEN_BLANK = 5;

    // The words of the kinds are numbered as the kinds are.
    private static final int WORD_NEXT = 7;
    private static final int WORD_WISH = 8;
    private static final int WORD_GREED = 9;
    private static final int WORD_GIFT = 10;
    private static final int WORD_WORTH = 11;
    private static final int WORD_WITH = 12;
    private static final int WORD_LAW = 13;
    private static final int WORD_PAPER = 14;
    private static final int WORDS = 15;
    private static final int NO_WORD = -1;

    private final Outlook outlook = new Outlook();
    private final Coast coast = outlook.coast;
    private final Coast kept = new Coast();
    private final Tape tape = new Tape();
    private final TextReader reader = new TextReader();
    private final Sheet[] sheets = new Sheet[SHEETS];
    private final int[] findings = new int[FINDINGS];
    private boolean somethingKept = false;

    public WrappedHands() {
        for (int s = 0; s < SHEETS; s++) {
            sheets[s] = new Sheet();
        }
    }

    // ---- people, gifts

    public int person(int kind) {
        if (!isWithin(kind, 0, KINDS - 1)) {
            return finding(BEYOND);
        }
        int number = coast.addPerson(kind);
        return number == NOBODY ? finding(FULL) : number;
    }

    public int of(int person, int what) {
        if (!coast.hasPerson(person)) {
            return finding(BEYOND);
        }
        Person one = coast.people[person];
        switch (what) {
            case 0: return one.kind;
            case 1: return one.next;
            case 2: return one.wish;
            case 3: return one.greed;
            case 4: return coast.giftsOf(person, IN_HAND);
            case 5: return coast.giftsOf(person, KEPT);
            default: return finding(BEYOND);
        }
    }

    public int change(int person, int what, int v) {
        if (!coast.hasPerson(person) || !isWithin(v, 0, mostOfTrait(what))) {
            return finding(BEYOND);
        }
        return coast.people[person].changeTrait(what, v);
    }

    public int gift(int weight, int worth, int person) {
        if (!isWithin(weight, 1, MOST_WEIGHT) || !isWithin(worth, 0, MOST_WORTH)
                || !coast.hasPerson(person)) {
            return finding(BEYOND);
        }
        int number = coast.addGift(weight, worth, person);
        return number < 0 ? finding(FULL) : number;
    }

    public int giftOf(int gift, int what) {
        if (!coast.hasGift(gift)) {
            return finding(BEYOND);
        }
        Gift g = coast.gifts[gift];
        switch (what) {
            case 0: return g.weight;
            case 1: return g.worth;
            case 2: return g.holder;
            case 3: return g.how;
            case 4: return g.layers;
            case 5: return coast.weightWith(g, g.layers);
            default: return finding(BEYOND);
        }
    }

    public int layer(int gift, int i, int what) {
        if (!isWithin(what, 0, 1)) {
            return finding(BEYOND);
        }
        int bar = barToLayer(gift, i);
        if (bar != NO_FINDING) {
            return finding(bar);
        }
        Gift g = coast.gifts[gift];
        return what == 0 ? g.nameOn(i) : g.handOf(i);
    }

    public int rule(int what, int v) {
        if (what == 0 && isWithin(v, 1, MOST_LAW)) {
            int was = coast.law;
            coast.law = v;
            return was;
        }
        if (what == 1 && isWithin(v, 0, MOST_PAPER)) {
            int was = coast.paper;
            coast.paper = v;
            return was;
        }
        return finding(BEYOND);
    }

    public int send(int gift, int person) {
        int bar = coast.hasPerson(person) ? barToHeld(gift) : BEYOND;
        if (bar != NO_FINDING) {
            return finding(bar);
        }
        Gift g = coast.gifts[gift];
        int was = g.holder;
        g.holder = person;
        return was;
    }

    public int open(int gift) {
        int bar = barToHeld(gift);
        if (bar != NO_FINDING) {
            return finding(bar);
        }
        Gift g = coast.gifts[gift];
        if (g.layers == 0) {
            return finding(NONE);
        }
        int name = g.outmostName();
        g.layers--;
        return name;
    }

    public int skin(int gift, int within) {
        if (!coast.hasGift(gift) || !coast.hasGift(within) || gift == within) {
            return finding(BEYOND);
        }
        Gift inner = coast.gifts[gift];
        Gift outer = coast.gifts[within];
        if (inner.how != IN_HAND || outer.how != IN_HAND || inner.holder != outer.holder
                || inner.layers > 0 || outer.layers > 0) {
            return finding(STATE);
        }
        outer.takeIn(inner);
        return coast.weightWith(outer, outer.layers);
    }

    // ---- what one would do

    public int writes(int person, int gift) {
        if (!coast.hasPerson(person) || !coast.hasGift(gift)) {
            return finding(BEYOND);
        }
        Gift g = coast.gifts[gift];
        return coast.nameBy(person, g, g.layers);
    }

    public int hands(int person, int gift) {
        if (!coast.hasPerson(person) || !coast.hasGift(gift)) {
            return finding(BEYOND);
        }
        return coast.receiverFrom(person, coast.gifts[gift], NOBODY);
    }

    public int keeps(int person, int gift) {
        if (!coast.hasPerson(person) || !coast.hasGift(gift)) {
            return finding(BEYOND);
        }
        return coast.wouldKeep(person, coast.gifts[gift]) ? 1 : 0;
    }

    // ---- days

    public int days(int n) {
        if (!isWithin(n, 1, MOST_DAYS)) {
            return finding(BEYOND);
        }
        if (coast.day > LAST_DAY - n) {
            return finding(STATE);
        }
        int before = Integer.bitCount(coast.giftsThatAre(KEPT));
        coast.passDays(n);
        return Integer.bitCount(coast.giftsThatAre(KEPT)) - before;
    }

    public int now(int what) {
        switch (what) {
            case 0: return coast.day;
            case 1: return coast.giftsThatAre(IN_HAND);
            case 2: return coast.giftsThatAre(KEPT);
            case 3: return coast.layersOfAll();
            case 4: return coast.law;
            case 5: return coast.paper;
            case 6: return coast.worthOf(coast.giftsThatAre(KEPT));
            default: return finding(BEYOND);
        }
    }

    public int ahead(int n, int what) {
        boolean known = what == 0 || what == 1 || what > 1 && coast.hasGift(what - 2);
        if (!isWithin(n, 0, MOST_DAYS) || !known) {
            return finding(BEYOND);
        }
        if (coast.day > LAST_DAY - n) {
            return finding(STATE);
        }
        if (what == 0) {
            return outlook.keptBehind(n);
        }
        return what == 1 ? outlook.layersBehind(n) : outlook.holderBehind(n, coast.gifts[what - 2]);
    }

    public int fate(int gift) {
        int bar = barToHeld(gift);
        if (bar != NO_FINDING) {
            return finding(bar);
        }
        return orNone(outlook.fateNow(coast.gifts[gift]));
    }

    public int when(int gift) {
        int bar = barToHeld(gift);
        if (bar != NO_FINDING) {
            return finding(bar);
        }
        return orNone(outlook.daysTillKept(coast.gifts[gift]));
    }

    public int seen(int gift) {
        int bar = barToHeld(gift);
        return bar != NO_FINDING ? finding(bar) : outlook.handsOnTheWay(coast.gifts[gift]);
    }

    // ---- whom to send it to

    public int senders(int gift, int person) {
        int bar = coast.hasPerson(person) ? barToHeld(gift) : BEYOND;
        return bar != NO_FINDING ? finding(bar) : outlook.handsLeadingTo(coast.gifts[gift], person);
    }

    public int fates(int gift) {
        int bar = barToHeld(gift);
        return bar != NO_FINDING ? finding(bar) : outlook.fatesBySending(coast.gifts[gift]);
    }

    public int wish(int gift, int person) {
        int bar = coast.hasPerson(person) ? barToHeld(gift) : BEYOND;
        if (bar != NO_FINDING) {
            return finding(bar);
        }
        return orNone(outlook.leastWish(coast.gifts[gift], person));
    }

    public int turn(int person, int gift, int to) {
        boolean there = coast.hasPerson(person) && coast.hasPerson(to);
        int bar = there ? barToHeld(gift) : BEYOND;
        if (bar != NO_FINDING) {
            return finding(bar);
        }
        return orNone(outlook.leastNext(person, coast.gifts[gift], to));
    }

    public int ends(int gift) {
        int bar = barToHeld(gift);
        if (bar != NO_FINDING) {
            return finding(bar);
        }
        Gift g = coast.gifts[gift];
        if (outlook.fateNow(g) != NOBODY) {
            return finding(STATE);
        }
        return orNone(outlook.firstEnd(g));
    }

    public int law(int gift) {
        int bar = barToHeld(gift);
        if (bar != NO_FINDING) {
            return finding(bar);
        }
        return orNone(outlook.leastLawThatChanges(coast.gifts[gift]));
    }

    public int rounds() {
        return outlook.roundsNow();
    }

    public int kindFor(int person) {
        return coast.hasPerson(person) ? outlook.bestKind(person) : finding(BEYOND);
    }

    public int hopes(int person) {
        return coast.hasPerson(person) ? outlook.worthFor(person) : finding(BEYOND);
    }

    public int missed() {
        return coast.peopleCount == 0 ? finding(NONE) : outlook.mostMissed();
    }

    // ---- layers, weights

    public int writers(int gift, int i) {
        int bar = barToLayer(gift, i);
        return bar != NO_FINDING ? finding(bar) : coast.writersOf(coast.gifts[gift], i);
    }

    public long ways(int gift) {
        return coast.hasGift(gift) ? coast.waysToLay(coast.gifts[gift]) : finding(BEYOND);
    }

    public int forged(int gift) {
        return coast.hasGift(gift) ? coast.forgedLayers(coast.gifts[gift]) : finding(BEYOND);
    }

    public int guess(int gift, int w) {
        if (!coast.hasGift(gift) || !isWithin(w, 0, MOST_WEIGHED)) {
            return finding(BEYOND);
        }
        return orNone(coast.fewestLayers(coast.gifts[gift], w));
    }

    // ---- draws

    public int wind(int n) {
        if (!isWithin(n, 1, MOST_WINDS)) {
            return finding(BEYOND);
        }
        if (coast.giftCount == 0 || coast.peopleCount == 0) {
            return finding(STATE);
        }
        for (int i = 0; i < n; i++) {
            coast.blowOnce();
        }
        return coast.layersOfAll();
    }

    public int seed(int v) {
        int was = coast.z;
        coast.z = v;
        return was;
    }

    // ---- texts

    public int feed(int bytes, int n) {
        if (!isWithin(n, 1, 4)) {
            return finding(BEYOND);
        }
        return tape.append(bytes, n) ? tape.length : finding(FULL);
    }

    public int wipe() {
        int was = tape.length;
        tape.length = 0;
        return was;
    }

    public int text() {
        int answer = reader.readOnto(coast, tape);
        tape.length = 0;
        return answer;
    }

    // ---- spots, sheets

    public int hold(int spot, int person) {
        if (!isWithin(spot, 0, SPOTS - 1) || person != NOBODY && !coast.hasPerson(person)) {
            return finding(BEYOND);
        }
        coast.spots[spot] = person;
        return 1;
    }

    public int as(int spot, int kind) {
        if (!isWithin(spot, 0, SPOTS - 1) || !isWithin(kind, 0, KINDS - 1)) {
            return finding(BEYOND);
        }
        int person = coast.spots[spot];
        if (!coast.hasPerson(person)) {
            return finding(MISSING);
        }
        return coast.people[person].isA(kind) ? person : finding(KIND);
    }

    public int sheet(int s, int bits, int n) {
        boolean known = bits == 0 || bits == 8 || bits == 16 || bits == 32;
        if (!isWithin(s, 0, SHEETS - 1) || !known) {
            return finding(BEYOND);
        }
        if (n < 0) {
            return finding(SIZE);
        }
        if (n > SHEET_SIZE) {
            return finding(BEYOND);
        }
        sheets[s].becomeBlank(bits, n);
        return sheets[s].length;
    }

    public int write(int s, int i, int v) {
        int bar = barToSheet(s);
        if (bar != NO_FINDING) {
            return finding(bar);
        }
        if (!isWithin(i, 0, sheets[s].length - 1)) {
            return finding(BEYOND);
        }
        sheets[s].put(i, v);
        return 1;
    }

    public int copy(int s, int from, int t, int to, int n) {
        if (!isWithin(s, 0, SHEETS - 1) || !isWithin(t, 0, SHEETS - 1)) {
            return finding(BEYOND);
        }
        Sheet source = sheets[s];
        Sheet goal = sheets[t];
        if (source.isMissing() || goal.isMissing()) {
            return finding(MISSING);
        }
        if (source.bits != goal.bits) {
            return finding(KIND);
        }
        if (!source.hasRun(from, n) || !goal.hasRun(to, n)) {
            return finding(BEYOND);
        }
        System.arraycopy(source.numbers, from, goal.numbers, to, n);
        return n;
    }

    public int load(int s) {
        int bar = barToSheet(s);
        return bar != NO_FINDING ? finding(bar) : coast.takeWishes(sheets[s]);
    }

    public int judge(int s, int gift) {
        int bar = barToSheet(s);
        if (bar != NO_FINDING) {
            return finding(bar);
        }
        if (!coast.hasGift(gift)) {
            return finding(BEYOND);
        }
        if (coast.day > LAST_DAY - sheets[s].length) {
            return finding(STATE);
        }
        return 1 + outlook.firstUntrue(sheets[s], coast.gifts[gift]);
    }

    // ---- images

    public int image() {
        kept.becomeLike(coast);
        somethingKept = true;
        return 1;
    }

    public int undo() {
        if (!somethingKept) {
            return finding(NONE);
        }
        coast.becomeLike(kept);
        return coast.day;
    }

    public int tear() {
        int was = somethingKept ? 1 : 0;
        somethingKept = false;
        return was;
    }

    public int count(int what) {
        switch (what) {
            case 0: return coast.day;
            case 1: return coast.peopleCount;
            case 2: return coast.giftCount;
            case 3: return coast.layersOfAll();
            case 4: return coast.worthOf(coast.allGifts());
            case 5: return tape.length;
            case 6: return coast.z;
            case 7: return coast.spotsInUse();
            default: return finding(BEYOND);
        }
    }

    public int status(int which) {
        if (!isWithin(which, -1, FINDINGS - 1)) {
            return finding(BEYOND);
        }
        if (which >= 0) {
            return findings[which];
        }
        int all = 0;
        for (int i = 0; i < FINDINGS; i++) {
            all += findings[i];
        }
        return all;
    }

    // ---- findings

    private int finding(int code) {
        int row = BEYOND - code;
        if (isWithin(row, 0, FINDINGS - 1)) {
            findings[row]++;
        }
        return code;
    }

    private int orNone(int answer) {
        return answer < 0 ? finding(NONE) : answer;
    }

    private int barToHeld(int gift) {
        if (!coast.hasGift(gift)) {
            return BEYOND;
        }
        return coast.gifts[gift].how == IN_HAND ? NO_FINDING : STATE;
    }

    private int barToLayer(int gift, int i) {
        if (!coast.hasGift(gift) || !isWithin(i, 0, MOST_LAYERS - 1)) {
            return BEYOND;
        }
        return i < coast.gifts[gift].layers ? NO_FINDING : NONE;
    }

    private int barToSheet(int s) {
        if (!isWithin(s, 0, SHEETS - 1)) {
            return BEYOND;
        }
        return sheets[s].isMissing() ? MISSING : NO_FINDING;
    }

    private static boolean isWithin(int v, int least, int most) {
        return v >= least && v <= most;
    }

    /** The most that a trait can be; below 0, so that no value fits, for a trait that isn't there. */
    private static int mostOfTrait(int what) {
        switch (what) {
            case 0: return KINDS - 1;
            case 1: return LAST_NAME;
            case 2: return LAST_NAME;
            case 3: return MOST_GREED;
            default: return -1;
        }
    }

    /** One of PEOPLE. */
    private static final class Person {
        int kind;
        int next;
        int wish;
        int greed;

        void begin(int number, int asKind) {
            kind = asKind;
            next = number >= LAST_NAME ? 0 : number + 1;
            wish = 0;
            greed = 50;
        }

        int changeTrait(int what, int v) {
            int was = kind;
            switch (what) {
                case 1: was = next; next = v; break;
                case 2: was = wish; wish = v; break;
                case 3: was = greed; greed = v; break;
                default: kind = v; break;
            }
            return was;
        }

        boolean isA(int wanted) {
            int at = kind;
            for (int level = 0; level < KINDS && isWithin(at, 0, KINDS - 1); level++) {
                if (at == wanted) {
                    return true;
                }
                at = KIND_ABOVE[at];
            }
            return false;
        }

        void becomeLike(Person other) {
            kind = other.kind;
            next = other.next;
            wish = other.wish;
            greed = other.greed;
        }
    }

    /** A GIFT with its LAYERS, the inmost first. */
    private static final class Gift {
        final int[] names = new int[MOST_LAYERS];
        final int[] wrappers = new int[MOST_LAYERS];
        int weight;
        int worth;
        int how;
        int holder;
        int layers;
        int inside;

        void begin(int ofWeight, int ofWorth, int person) {
            weight = ofWeight;
            worth = ofWorth;
            how = IN_HAND;
            holder = person;
            layers = 0;
            inside = 0;
        }

        int nameOn(int i) {
            return i >= 0 && i < MOST_LAYERS ? names[i] : NOBODY;
        }

        int handOf(int i) {
            return i >= 0 && i < MOST_LAYERS ? wrappers[i] : NOBODY;
        }

        int outmostName() {
            return layers > 0 && layers <= MOST_LAYERS ? names[layers - 1] : NOBODY;
        }

        void wrap(int name, int person) {
            if (layers >= 0 && layers < MOST_LAYERS) {
                names[layers] = name;
                wrappers[layers] = person;
                layers++;
            }
        }

        /** What lies within has no layers and never gets any, so its weight stays and is summed once. */
        void takeIn(Gift inner) {
            inside += inner.weight + inner.inside;
            inner.how = WITHIN;
            inner.holder = NOBODY;
        }

        void becomeLike(Gift other) {
            System.arraycopy(other.names, 0, names, 0, MOST_LAYERS);
            System.arraycopy(other.wrappers, 0, wrappers, 0, MOST_LAYERS);
            weight = other.weight;
            worth = other.worth;
            how = other.how;
            holder = other.holder;
            layers = other.layers;
            inside = other.inside;
        }
    }

    /** All that an image keeps: people, gifts, rules, the day, z and the spots. */
    private static final class Coast {
        final Person[] people = new Person[MOST_PEOPLE];
        final Gift[] gifts = new Gift[MOST_GIFTS];
        final int[] spots = new int[SPOTS];
        int peopleCount = 0;
        int giftCount = 0;
        int law = 9;
        int paper = 1;
        int day = 0;
        int z = 1;

        Coast() {
            for (int p = 0; p < MOST_PEOPLE; p++) {
                people[p] = new Person();
            }
            for (int g = 0; g < MOST_GIFTS; g++) {
                gifts[g] = new Gift();
            }
            for (int s = 0; s < SPOTS; s++) {
                spots[s] = NOBODY;
            }
        }

        void becomeLike(Coast other) {
            for (int p = 0; p < MOST_PEOPLE; p++) {
                people[p].becomeLike(other.people[p]);
            }
            for (int g = 0; g < MOST_GIFTS; g++) {
                gifts[g].becomeLike(other.gifts[g]);
            }
            System.arraycopy(other.spots, 0, spots, 0, SPOTS);
            peopleCount = other.peopleCount;
            giftCount = other.giftCount;
            law = other.law;
            paper = other.paper;
            day = other.day;
            z = other.z;
        }

        boolean hasPerson(int p) {
            return p >= 0 && p < peopleCount;
        }

        boolean hasGift(int g) {
            return g >= 0 && g < giftCount;
        }

        int addPerson(int kind) {
            if (peopleCount >= MOST_PEOPLE) {
                return NOBODY;
            }
            people[peopleCount].begin(peopleCount, kind);
            peopleCount++;
            return peopleCount - 1;
        }

        int addGift(int weight, int worth, int person) {
            if (giftCount >= MOST_GIFTS) {
                return -1;
            }
            gifts[giftCount].begin(weight, worth, person);
            giftCount++;
            return giftCount - 1;
        }

        int allGifts() {
            return (1 << giftCount) - 1;
        }

        int giftsThatAre(int how) {
            int set = 0;
            for (int g = 0; g < giftCount; g++) {
                if (gifts[g].how == how) {
                    set |= 1 << g;
                }
            }
            return set;
        }

        int giftsOf(int person, int how) {
            int set = 0;
            for (int g = 0; g < giftCount; g++) {
                if (gifts[g].how == how && gifts[g].holder == person) {
                    set |= 1 << g;
                }
            }
            return set;
        }

        int worthOf(int set) {
            int sum = 0;
            for (int g = 0; g < giftCount; g++) {
                if ((set >> g & 1) == 1) {
                    sum += gifts[g].worth;
                }
            }
            return sum;
        }

        int layersOfAll() {
            int sum = 0;
            for (int g = 0; g < giftCount; g++) {
                sum += gifts[g].layers;
            }
            return sum;
        }

        int spotsInUse() {
            int many = 0;
            for (int s = 0; s < SPOTS; s++) {
                if (spots[s] != NOBODY) {
                    many++;
                }
            }
            return many;
        }

        int weightWith(Gift gift, int layers) {
            return gift.weight + paper * layers + gift.inside;
        }

        /** The NAME that one writes on a gift of which just so many layers, the inmost, are there. */
        int nameBy(int p, Gift gift, int layers) {
            if (!hasPerson(p)) {
                return NOBODY;
            }
            switch (people[p].kind) {
                case FORGING: return layers > 0 ? gift.nameOn(layers - 1) : people[p].wish;
                case CHILD:
                case IMP: return p;
                default: return people[p].wish;
            }
        }

        /** Whether gifts can be handed on to one, with one (or NOBODY) gone. */
        boolean canReceive(int p, int gone) {
            return p >= 0 && p < peopleCount && p != gone;
        }

        /** Whom one hands a gift on to, there or not, with one (or NOBODY) gone. */
        int receiverFrom(int p, Gift gift, int gone) {
            if (!hasPerson(p)) {
                return NOBODY;
            }
            int next = people[p].next;
            boolean wrapped = gift.layers > 0;
            switch (people[p].kind) {
                case BLIND:
                case FORGING: return canReceive(next, gone) ? people[next].next : next;
                case IN_LAW: return wrapped ? gift.outmostName() : next;
                case IMP: return wrapped ? gift.handOf(gift.layers - 1) : next;
                default: return next;
            }
        }

        boolean wouldKeep(int p, Gift gift) {
            if (!hasPerson(p)) {
                return false;
            }
            boolean asHand = gift.layers >= law || gift.layers > 0 && gift.nameOn(0) == p;
            switch (people[p].kind) {
                case KEEPING:
                case IN_LAW: return asHand || weightWith(gift, gift.layers) >= people[p].greed;
                case CHILD:
                case IMP: return asHand && gift.layers >= 2;
                default: return asHand;
            }
        }

        /** One DAY of a gift, with one (or NOBODY) to whom nothing can be handed on. */
        void passDayOf(Gift gift, int gone) {
            int p = gift.holder;
            if (gift.how != IN_HAND || !hasPerson(p)) {
                return;
            }
            if (wouldKeep(p, gift)) {
                gift.how = KEPT;
                return;
            }
            // Both are told by the gift as it is before this one's own layer.
            int name = nameBy(p, gift, gift.layers);
            int to = receiverFrom(p, gift, gone);
            gift.wrap(name, p);
            if (canReceive(to, gone)) {
                gift.holder = to;
            }
        }

        void passDays(int n) {
            for (int d = 0; d < n; d++) {
                for (int g = 0; g < giftCount; g++) {
                    passDayOf(gifts[g], NOBODY);
                }
            }
            day += n;
        }

        int writersOf(Gift gift, int i) {
            int set = 0;
            for (int p = 0; p < peopleCount; p++) {
                if (nameBy(p, gift, i) == gift.nameOn(i)) {
                    set |= 1 << p;
                }
            }
            return set;
        }

        long waysToLay(Gift gift) {
            long product = 1;
            for (int i = 0; i < gift.layers; i++) {
                product *= Integer.bitCount(writersOf(gift, i));
            }
            return product;
        }

        int forgedLayers(Gift gift) {
            int set = 0;
            for (int i = 0; i < gift.layers; i++) {
                if ((writersOf(gift, i) >> gift.handOf(i) & 1) == 0) {
                    set |= 1 << i;
                }
            }
            return set;
        }

        int fewestLayers(Gift gift, int w) {
            for (int layers = 0; layers <= MOST_LAYERS; layers++) {
                if (weightWith(gift, layers) == w) {
                    return layers;
                }
            }
            return -1;
        }

        int draw() {
            z = z * 1103515245 + 12345;
            return z >>> 8;
        }

        void blowOnce() {
            if (giftCount <= 0 || peopleCount <= 0) {
                return;
            }
            int g = draw() % giftCount;
            int p = draw() % peopleCount;
            if (hasGift(g) && gifts[g].how == IN_HAND) {
                gifts[g].holder = p;
            }
        }

        int takeWishes(Sheet sheet) {
            for (int i = 0; i < sheet.length; i++) {
                int v = sheet.numbers[i];
                if (!hasPerson(i) || !isWithin(v, 0, LAST_NAME)) {
                    return i;
                }
                people[i].wish = v;
            }
            return sheet.length;
        }
    }

    /**
     * What becomes of the gifts of its coast: a copy of one walks through the days to come. To try another
     * trait or law, the coast gets it for as long as the trial lasts. The coast is made here and taken from
     * here, so that no constructor hands out a part of what it makes.
     */
    private static final class Outlook {
        final Coast coast = new Coast();
        final Gift walker = new Gift();
        int daysWalked = 0;

        void walk(Gift gift, int n) {
            walker.becomeLike(gift);
            for (int d = 0; d < n; d++) {
                coast.passDayOf(walker, NOBODY);
            }
        }

        int keptBehind(int n) {
            int set = 0;
            for (int g = 0; g < coast.giftCount; g++) {
                walk(coast.gifts[g], n);
                if (walker.how == KEPT) {
                    set |= 1 << g;
                }
            }
            return set;
        }

        int layersBehind(int n) {
            int sum = 0;
            for (int g = 0; g < coast.giftCount; g++) {
                walk(coast.gifts[g], n);
                sum += walker.layers;
            }
            return sum;
        }

        int holderBehind(int n, Gift gift) {
            walk(gift, n);
            return walker.holder;
        }

        /** The place of the first number that doesn't tell the holder, or -1. */
        int firstUntrue(Sheet sheet, Gift gift) {
            walker.becomeLike(gift);
            for (int i = 0; i < sheet.length; i++) {
                coast.passDayOf(walker, NOBODY);
                if (sheet.numbers[i] != walker.holder) {
                    return i;
                }
            }
            return -1;
        }

        /** By whom a gift is kept that starts in a hand, with one (or NOBODY) gone; NOBODY: a round. */
        int fateOf(Gift gift, int from, int gone) {
            walker.becomeLike(gift);
            walker.holder = from;
            for (int d = 1; d <= FATE_DAYS; d++) {
                coast.passDayOf(walker, gone);
                if (walker.how == KEPT) {
                    daysWalked = d;
                    return walker.holder;
                }
            }
            return NOBODY;
        }

        int fateNow(Gift gift) {
            return fateOf(gift, gift.holder, NOBODY);
        }

        int daysTillKept(Gift gift) {
            return fateNow(gift) == NOBODY ? -1 : daysWalked;
        }

        int handsOnTheWay(Gift gift) {
            walker.becomeLike(gift);
            int set = 0;
            for (int d = 0; d <= FATE_DAYS; d++) {
                if (coast.hasPerson(walker.holder)) {
                    set |= 1 << walker.holder;
                }
                coast.passDayOf(walker, NOBODY);
            }
            return set;
        }

        int handsLeadingTo(Gift gift, int person) {
            int set = 0;
            for (int p = 0; p < coast.peopleCount; p++) {
                if (fateOf(gift, p, NOBODY) == person) {
                    set |= 1 << p;
                }
            }
            return set;
        }

        int fatesBySending(Gift gift) {
            int set = 0;
            for (int p = 0; p < coast.peopleCount; p++) {
                int fate = fateOf(gift, p, NOBODY);
                if (fate != NOBODY) {
                    set |= 1 << fate;
                }
            }
            return set;
        }

        int leastWish(Gift gift, int wanted) {
            if (!coast.hasPerson(gift.holder)) {
                return -1;
            }
            Person one = coast.people[gift.holder];
            int was = one.wish;
            int found = -1;
            for (int v = 0; v <= LAST_NAME && found < 0; v++) {
                one.wish = v;
                found = fateNow(gift) == wanted ? v : -1;
            }
            one.wish = was;
            return found;
        }

        /** The wanted one may be ANYBODY: then every fate will do. */
        int leastNext(int person, Gift gift, int wanted) {
            if (!coast.hasPerson(person)) {
                return -1;
            }
            Person one = coast.people[person];
            int was = one.next;
            int found = -1;
            for (int v = 0; v <= LAST_NAME && found < 0; v++) {
                one.next = v;
                int fate = fateNow(gift);
                boolean does = wanted == ANYBODY ? fate != NOBODY : fate == wanted;
                found = does ? v : -1;
            }
            one.next = was;
            return found;
        }

        int firstEnd(Gift gift) {
            for (int p = 0; p < coast.peopleCount; p++) {
                int next = leastNext(p, gift, ANYBODY);
                if (next >= 0) {
                    return 10 * p + next;
                }
            }
            return -1;
        }

        int leastLawThatChanges(Gift gift) {
            int fate = fateNow(gift);
            int was = coast.law;
            int found = -1;
            for (int v = 1; v <= MOST_LAW && found < 0; v++) {
                coast.law = v;
                found = fateNow(gift) != fate ? v : -1;
            }
            coast.law = was;
            return found;
        }

        int roundsNow() {
            int many = 0;
            for (int g = 0; g < coast.giftCount; g++) {
                if (coast.gifts[g].how == IN_HAND && fateNow(coast.gifts[g]) == NOBODY) {
                    many++;
                }
            }
            return many;
        }

        int worthFor(int person) {
            int sum = 0;
            for (int g = 0; g < coast.giftCount; g++) {
                if (coast.gifts[g].how == IN_HAND && fateNow(coast.gifts[g]) == person) {
                    sum += coast.gifts[g].worth;
                }
            }
            return sum;
        }

        int bestKind(int person) {
            if (!coast.hasPerson(person)) {
                return HAND;
            }
            Person one = coast.people[person];
            int was = one.kind;
            int best = HAND;
            int most = -1;
            for (int kind = 0; kind < KINDS; kind++) {
                one.kind = kind;
                int worth = worthFor(person);
                if (worth > most) {
                    most = worth;
                    best = kind;
                }
            }
            one.kind = was;
            return best;
        }

        int fatesChangedWithout(int gone) {
            int many = 0;
            for (int g = 0; g < coast.giftCount; g++) {
                Gift gift = coast.gifts[g];
                if (gift.how == IN_HAND && fateOf(gift, gift.holder, gone) != fateNow(gift)) {
                    many++;
                }
            }
            return many;
        }

        int mostMissed() {
            int best = 0;
            int most = -1;
            for (int p = 0; p < coast.peopleCount; p++) {
                int many = fatesChangedWithout(p);
                if (many > most) {
                    most = many;
                    best = p;
                }
            }
            return best;
        }
    }

    /** A row of numbers of 8, 16 or 32 bits; of 0 bits it is MISSING. */
    private static final class Sheet {
        final int[] numbers = new int[SHEET_SIZE];
        int bits = 0;
        int length = 0;

        boolean isMissing() {
            return bits == 0;
        }

        void becomeBlank(int ofBits, int n) {
            bits = ofBits;
            length = bits == 0 ? 0 : n;
            for (int i = 0; i < SHEET_SIZE; i++) {
                numbers[i] = 0;
            }
        }

        void put(int i, int v) {
            if (!isWithin(i, 0, SHEET_SIZE - 1)) {
                return;
            }
            switch (bits) {
                case 8: numbers[i] = (byte) v; break;
                case 16: numbers[i] = (short) v; break;
                default: numbers[i] = v; break;
            }
        }

        /** Asked without from + n, which could wrap around. */
        boolean hasRun(int from, int n) {
            return from >= 0 && n >= 0 && n <= length && from <= length - n;
        }
    }

    /** THE TAPE. */
    private static final class Tape {
        final byte[] bytes = new byte[TAPE_SIZE];
        int length = 0;

        boolean append(int number, int n) {
            if (length + n > TAPE_SIZE) {
                return false;
            }
            for (int i = n - 1; i >= 0; i--) {
                bytes[length] = (byte) (number >>> 8 * i);
                length++;
            }
            return true;
        }
    }

    /** The TOKENS of a tape, and an end behind them. */
    private static final class Tokens {
        final int[] kinds = new int[TAPE_SIZE + 1];
        final int[] starts = new int[TAPE_SIZE + 1];
        final int[] stops = new int[TAPE_SIZE + 1];
        final int[] values = new int[TAPE_SIZE + 1];
        int many = 0;

        void scan(Tape tape) {
            many = 0;
            int kindBefore = TOKEN_BLANK;
            for (int i = 0; i < tape.length; i++) {
                int kind = kindOfByte(tape.bytes[i]);
                boolean goesOn = kind == kindBefore && (kind == TOKEN_WORD || kind == TOKEN_NUMBER);
                if (kind != TOKEN_BLANK && !goesOn) {
                    begin(kind, i);
                }
                if (kind != TOKEN_BLANK) {
                    extend(tape.bytes[i], i + 1);
                }
                kindBefore = kind;
            }
            kinds[many] = TOKEN_END;
            starts[many] = tape.length;
            for (int t = 0; t < many; t++) {
                if (kinds[t] == TOKEN_WORD) {
                    values[t] = wordBetween(tape, starts[t], stops[t]);
                }
            }
        }

        private void begin(int kind, int start) {
            if (isWithin(many, 0, TAPE_SIZE - 1)) {
                kinds[many] = kind;
                starts[many] = start;
                values[many] = 0;
                many++;
            }
        }

        private void extend(int sign, int stop) {
            int last = many - 1;
            if (!isWithin(last, 0, TAPE_SIZE - 1)) {
                return;
            }
            stops[last] = stop;
            if (kinds[last] == TOKEN_NUMBER) {
                // Held at 1000, which nothing allows, so that long ones don't wrap around.
                values[last] = Math.min(1000, values[last] * 10 + sign - '0');
            }
        }

        private static int kindOfByte(int sign) {
            if (isWithin(sign, 'a', 'z')) {
                return TOKEN_WORD;
            }
            if (isWithin(sign, '0', '9')) {
                return TOKEN_NUMBER;
            }
            switch (sign) {
                case ';': return TOKEN_SIGN;
                case ' ': return TOKEN_BLANK;
                default: return TOKEN_OTHER;
            }
        }

        private static int wordBetween(Tape tape, int start, int stop) {
            for (int word = 0; word < WORDS; word++) {
                if (spells(tape, start, stop, spellingOf(word))) {
                    return word;
                }
            }
            return NO_WORD;
        }

        private static boolean spells(Tape tape, int start, int stop, String word) {
            if (stop - start != word.length() || start < 0 || stop > tape.length) {
                return false;
            }
            for (int i = 0; i < word.length(); i++) {
                if (tape.bytes[start + i] != word.charAt(i)) {
                    return false;
                }
            }
            return true;
        }

        private static String spellingOf(int word) {
            switch (word) {
                case HAND: return "hand";
                case KEEPING: return "keeping";
                case BLIND: return "blind";
                case IN_LAW: return "inlaw";
                case FORGING: return "forging";
                case CHILD: return "child";
                case IMP: return "imp";
                case WORD_NEXT: return "next";
                case WORD_WISH: return "wish";
                case WORD_GREED: return "greed";
                case WORD_GIFT: return "gift";
                case WORD_WORTH: return "worth";
                case WORD_WITH: return "with";
                case WORD_LAW: return "law";
                case WORD_PAPER: return "paper";
                default: return "";
            }
        }
    }

    /**
     * Reads a text item by item onto a draft of the coast, so that a fault leaves the coast as it was.
     * Whatever fails to be read leaves the place at the token that can't stand there.
     */
    private static final class TextReader {
        final Coast draft = new Coast();
        final Tokens tokens = new Tokens();
        int at = 0;
        int told = 0;

        /** How many items, or -1 less the fault. */
        int readOnto(Coast coast, Tape tape) {
            draft.becomeLike(coast);
            tokens.scan(tape);
            at = 0;
            for (int items = 1; items <= TAPE_SIZE && readItem(); items++) {
                if (standsAt(TOKEN_END)) {
                    coast.becomeLike(draft);
                    return items;
                }
                if (!standsAt(TOKEN_SIGN)) {
                    break;
                }
                at++;
            }
            return at >= 0 && at <= TAPE_SIZE ? -1 - tokens.starts[at] : -1;
        }

        private boolean readItem() {
            if (!standsAt(TOKEN_WORD)) {
                return false;
            }
            int word = tokens.values[at];
            switch (word) {
                case WORD_GIFT: return readGift();
                case WORD_LAW: return readLaw();
                case WORD_PAPER: return readPaper();
                default: return isWithin(word, 0, KINDS - 1) && readPerson(word);
            }
        }

        private boolean readPerson(int kind) {
            int number = draft.addPerson(kind);
            if (!draft.hasPerson(number)) {
                return false;
            }
            at++;
            Person one = draft.people[number];
            if (!readPerhaps(WORD_NEXT, LAST_NAME, one.next)) {
                return false;
            }
            one.next = told;
            if (!readPerhaps(WORD_WISH, LAST_NAME, one.wish)) {
                return false;
            }
            one.wish = told;
            if (!readPerhaps(WORD_GREED, MOST_GREED, one.greed)) {
                return false;
            }
            one.greed = told;
            return true;
        }

        private boolean readGift() {
            if (draft.giftCount >= MOST_GIFTS || draft.peopleCount == 0) {
                return false;
            }
            at++;
            if (!readNumber(1, MOST_WEIGHT)) {
                return false;
            }
            int weight = told;
            if (!readPerhaps(WORD_WORTH, MOST_WORTH, 0)) {
                return false;
            }
            int worth = told;
            if (!readPerhaps(WORD_WITH, draft.peopleCount - 1, 0)) {
                return false;
            }
            return draft.addGift(weight, worth, told) >= 0;
        }

        private boolean readLaw() {
            at++;
            if (!readNumber(1, MOST_LAW)) {
                return false;
            }
            draft.law = told;
            return true;
        }

        private boolean readPaper() {
            at++;
            if (!readNumber(0, MOST_PAPER)) {
                return false;
            }
            draft.paper = told;
            return true;
        }

        /** Perhaps a word and a number from 0 on; without the word the number is otherwise. */
        private boolean readPerhaps(int word, int most, int otherwise) {
            told = otherwise;
            if (!standsAt(TOKEN_WORD) || tokens.values[at] != word) {
                return true;
            }
            at++;
            return readNumber(0, most);
        }

        private boolean readNumber(int least, int most) {
            if (!standsAt(TOKEN_NUMBER) || !isWithin(tokens.values[at], least, most)) {
                return false;
            }
            told = tokens.values[at];
            at++;
            return true;
        }

        private boolean standsAt(int kind) {
            return at >= 0 && at <= TAPE_SIZE && tokens.kinds[at] == kind;
        }
    }
}
