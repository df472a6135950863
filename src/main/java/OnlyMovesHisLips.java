/** Singers in a row, some of whom sing wrong, and what can be said of them by what was heard. See ../shared/DOC.md. */
public final class OnlyMovesHisLips {
    public static final int NONE = -1;

    private static final int NOBODY = -1;
    private static final int OTHER = -2;
    private static final int NOTHING = -3;
    private static final int BELOW = -4;
    private static final int BEYOND = -5;
    private static final int WRONG = -6;
    private static final int ROOM = -7;

    private static final int SHELVES = 8;
    private static final int MOST_AHEAD = 16;
    private static final int MOST_TOLD = 32;
    private static final int MOST_EVENINGS = 20;
    private static final int FIRST_REFUSAL_STATUS = 11;
    // NONE is an answer of judge(), so that its refusals stand apart from it by so much
    private static final int JUDGE_APART = 10;

    private final Shelf[] shelves = new Shelf[SHELVES];
    private final int[] refusals = new int[8];
    private final Voice voice = new Voice();
    private final Reader reader = new Reader();
    private final Course course = new Course();
    private final Told told = new Told();
    private Hall hall = new Hall();
    // a text is told to the spare one, which takes the other's place only if all of it can stand
    private Hall spare = new Hall();
    private final Hall image = new Hall();
    private boolean hasImage = false;
    private int latestFault = NONE;

    public OnlyMovesHisLips() {
        for (int s = 0; s < SHELVES; s++) {
            shelves[s] = new Shelf();
        }
    }

    // ---- shelves

    public int row(int s, int sort, int n) {
        if (!isShelf(s)) {
            return refuse(NOBODY);
        }
        if (n < 0) {
            return refuse(BELOW);
        }
        if (sort < 0 || sort >= Shelf.SORTS) {
            return refuse(WRONG);
        }
        if (n > Shelf.MOST_ELEMENTS) {
            return refuse(ROOM);
        }
        shelves[s].begin(sort, n);
        return 1;
    }

    public int set(int s, int i, long v) {
        int lack = lackOfRow(s);
        if (lack != 0) {
            return refuse(lack);
        }
        if (!shelves[s].hasElement(i)) {
            return refuse(BEYOND);
        }
        shelves[s].put(i, v);
        return 1;
    }

    public int copy(int p, int q, int i, int j, int n) {
        int lack = lackForCopy(p, q);
        if (lack != 0) {
            return refuse(lack);
        }
        if (n < 0) {
            return refuse(BELOW);
        }
        if (!shelves[p].hasElements(i, n) || !shelves[q].hasElements(j, n)) {
            return refuse(BEYOND);
        }
        System.arraycopy(shelves[p].elements, i, shelves[q].elements, j, n);
        return 1;
    }

    public long element(int s, int i) {
        if (lackOfRow(s) != 0 || !shelves[s].hasElement(i)) {
            return 0L;
        }
        return shelves[s].elements[i];
    }

    public int show(int s, int singer) {
        if (!isShelf(s) || (singer != NONE && !hall.choir.has(singer))) {
            return refuse(NOBODY);
        }
        shelves[s].held = singer;
        return singer == NONE ? 0 : 1;
    }

    public int holds(int s) {
        return isShelf(s) ? shelves[s].held : NONE;
    }

    public int says(int s, int kind) {
        if (!isShelf(s) || !Choir.isKind(kind)) {
            return refuse(NOBODY);
        }
        Shelf shelf = shelves[s];
        if (shelf.holdsRow()) {
            return refuse(OTHER);
        }
        if (!hall.choir.has(shelf.held)) {
            return refuse(NOTHING);
        }
        if (!Choir.isUnder(hall.choir.kinds[shelf.held], kind)) {
            return refuse(OTHER);
        }
        return hall.choir.tellsOf(shelf.held, kind);
    }

    // ---- the loft

    public int singer(int kind, int a, int odds) {
        if (!Choir.isKind(kind)) {
            return refuse(NOBODY);
        }
        if (!Choir.isA(a) || !Choir.isOdds(odds)) {
            return refuse(WRONG);
        }
        if (!hall.choir.hasRoom()) {
            return refuse(ROOM);
        }
        hall.join(kind, a, odds);
        return hall.choir.count - 1;
    }

    public int singerOf(int singer, int what) {
        Choir choir = hall.choir;
        if (!choir.has(singer)) {
            return refuse(BEYOND);
        }
        switch (what) {
            case 0:
                return choir.kinds[singer];
            case 1:
                return choir.as[singer];
            case 2:
                return choir.odds[singer];
            case 3:
                return choir.places[singer];
            case 4:
                return hall.likely(singer);
            default:
                return refuse(BEYOND);
        }
    }

    public int ask(int what, int v) {
        if (!Hall.suits(what, v)) {
            return refuse(WRONG);
        }
        int before = hall.rule(what);
        hall.put(what, v);
        return before;
    }

    public int loft(int s) {
        int lack = lackOfRow(s);
        if (lack != 0) {
            return refuse(lack);
        }
        spare.copyOf(hall);
        reader.begin(shelves[s]);
        int items = 0;
        boolean goesOn = true;
        while (goesOn && items <= Shelf.MOST_ELEMENTS) {
            goesOn = reader.readItem(spare) && reader.goesOn();
            items++;
        }
        latestFault = reader.fault;
        if (latestFault != NONE) {
            return refuse(WRONG);
        }
        Hall before = hall;
        hall = spare;
        spare = before;
        return items;
    }

    public int fault() {
        return latestFault;
    }

    // ---- worlds and hearings

    public int worlds(int what) {
        switch (what) {
            case 0:
                return hall.worlds.count;
            case 1:
                return hall.possible();
            default:
                return refuse(BEYOND);
        }
    }

    public int world(int i) {
        if (i < 0 || i >= hall.possible()) {
            return refuse(BEYOND);
        }
        return hall.possibleWorld(i);
    }

    public int sounds(int set, int world) {
        int index = hall.worlds.indexOf(world);
        if (!hall.choir.isSet(set) || index == NONE) {
            return refuse(WRONG);
        }
        return hall.worlds.soundOf(set, index);
    }

    public int heard(int set, int sound) {
        if (!hall.choir.isSet(set) || !hall.canSound(set, sound)) {
            return refuse(WRONG);
        }
        if (!hall.isKnown(set, sound) && !hall.hasRoom()) {
            return refuse(ROOM);
        }
        hall.learn(set, sound);
        return hall.possible();
    }

    public int known(int i) {
        if (i == NONE) {
            return hall.hearingCount;
        }
        if (i < 0 || i >= hall.hearingCount) {
            return refuse(BEYOND);
        }
        return hall.hearings[i];
    }

    public int forget() {
        int before = hall.hearingCount;
        hall.forgetAll();
        return before;
    }

    // ---- what can be said

    public int may(int what) {
        switch (what) {
            case 0:
                return hall.wrongInSome();
            case 1:
                return hall.wrongInAll();
            default:
                return refuse(BEYOND);
        }
    }

    public int likeliest() {
        if (hall.possible() == 0) {
            return refuse(BEYOND);
        }
        return hall.likeliestWorld();
    }

    public int lawful(int set) {
        return hall.allows(set) ? 1 : 0;
    }

    public int parts(int set, int what) {
        if (what < 0 || what > 1) {
            return refuse(BEYOND);
        }
        if (!hall.choir.isSet(set)) {
            return refuse(WRONG);
        }
        int wrong = hall.worlds.wrongAmong(set, hall.low, hall.high);
        return what == 0 ? wrong : Math.max(wrong, hall.possible() - wrong);
    }

    public int next() {
        return hall.best(hall.low, hall.high);
    }

    public int by(int what) {
        if (what < 0 || what > 2 || hall.possible() == 0) {
            return refuse(BEYOND);
        }
        course.follow(hall);
        switch (what) {
            case 0:
                return course.worst;
            case 1:
                return course.mean();
            default:
                return course.left;
        }
    }

    // ---- rows told

    public int ahead(int s, int n, int what) {
        int lack = lackOfTold(s, n);
        if (lack == 0 && (what < 0 || what > 1)) {
            lack = BEYOND;
        }
        if (lack == 0 && (n > MOST_AHEAD || !told.areSets(hall, shelves[s], n))) {
            lack = WRONG;
        }
        if (lack != 0) {
            return refuse(lack);
        }
        told.sortOut(hall, shelves[s], n);
        return what == 0 ? told.unlike : told.alike;
    }

    public int judge(int s, int n) {
        int lack = lackOfTold(s, n);
        if (lack == 0 && n > MOST_TOLD) {
            lack = WRONG;
        }
        if (lack != 0) {
            return refuse(lack) - JUDGE_APART;
        }
        return told.firstWrong(hall, shelves[s], n);
    }

    public int behind(int s, int n) {
        int lack = lackOfTold(s, n);
        if (lack == 0 && (!isToldInPairs(n) || told.firstWrong(hall, shelves[s], n) != NONE)) {
            lack = WRONG;
        }
        if (lack != 0) {
            return refuse(lack);
        }
        return Worlds.countIn(told.low, told.high);
    }

    public int byEar(int s, int n) {
        int lack = lackOfTold(s, n);
        if (lack == 0 && hall.choir.count == 0) {
            lack = BEYOND;
        }
        if (lack == 0 && (!isToldInPairs(n) || !told.arePairs(hall, shelves[s], n))) {
            lack = WRONG;
        }
        if (lack != 0) {
            return refuse(lack);
        }
        return told.likeliestByEar(hall, shelves[s], n);
    }

    // ---- places

    public int beside() {
        return hall.firstToChange();
    }

    public int quiet() {
        if (hall.choir.count == 0) {
            return refuse(BEYOND);
        }
        return hall.mostQuiet();
    }

    public int swap(int singer, int other) {
        if (!hall.choir.has(singer) || !hall.choir.has(other)) {
            return refuse(NOBODY);
        }
        if (singer == other) {
            return refuse(WRONG);
        }
        hall.changePlaces(singer, other);
        return 1;
    }

    // ---- in truth

    public int isTrue(int world) {
        int index = hall.worlds.indexOf(world);
        if (index == NONE) {
            return refuse(WRONG);
        }
        int before = hall.trueWorld();
        hall.makeTrue(index);
        return before;
    }

    public int hear(int set) {
        if (!hall.allows(set)) {
            return refuse(WRONG);
        }
        int sound = hall.soundInTruth(set);
        if (!hall.isKnown(set, sound) && !hall.hasRoom()) {
            return refuse(ROOM);
        }
        hall.learn(set, sound);
        return sound;
    }

    public int evenings(int n) {
        if (hall.choir.count == 0) {
            return refuse(BEYOND);
        }
        if (n < 1 || n > MOST_EVENINGS) {
            return refuse(WRONG);
        }
        int sum = 0;
        for (int i = 0; i < n; i++) {
            sum += hall.evening();
        }
        return sum;
    }

    public int seed(int v) {
        int before = hall.seed;
        hall.seed = v;
        return before;
    }

    // ---- acts

    public int act(int singer, int act, int x) {
        voice.silence();
        if (!hall.choir.has(singer) || act < 0 || act >= Voice.ACTS) {
            return 0;
        }
        return voice.perform(hall.choir, singer, act, x);
    }

    public int trace(int i) {
        return voice.traced(i);
    }

    // ---- the whole

    public int image() {
        image.copyOf(hall);
        hasImage = true;
        return hall.choir.count;
    }

    public int restore() {
        if (!hasImage) {
            return refuse(WRONG);
        }
        hall.copyOf(image);
        for (int s = 0; s < SHELVES; s++) {
            if (!shelves[s].holdsRow() && !hall.choir.has(shelves[s].held)) {
                shelves[s].held = NONE;
            }
        }
        return hall.choir.count;
    }

    public int status(int what) {
        switch (what) {
            case 0:
                return hall.choir.count;
            case 1:
            case 2:
            case 3:
            case 4:
                return hall.rule(what - 1);
            case 5:
                return hall.hearingCount;
            case 6:
                return hall.trueWorld();
            case 7:
                return hall.seed;
            case 8:
                return voice.ran;
            default:
                return refusalsOf(what);
        }
    }

    // ---- what the calls have in common

    private int refuse(int number) {
        if (number <= NOBODY && number >= ROOM) {
            refusals[-number]++;
        }
        return number;
    }

    private int refusalsOf(int what) {
        int number = what < FIRST_REFUSAL_STATUS ? 0 : what - FIRST_REFUSAL_STATUS + 1;
        return number >= 1 && number <= -ROOM ? refusals[number] : NONE;
    }

    private static boolean isShelf(int s) {
        return s >= 0 && s < SHELVES;
    }

    /** The refusal that a ROW wanted in SHELF s meets, 0 for none. */
    private int lackOfRow(int s) {
        if (!isShelf(s)) {
            return NOBODY;
        }
        if (shelves[s].holdsRow()) {
            return 0;
        }
        return shelves[s].held == NONE ? NOTHING : OTHER;
    }

    private int lackForCopy(int p, int q) {
        int first = lackOfRow(p);
        int second = lackOfRow(q);
        if (first == NOBODY || second == NOBODY) {
            return NOBODY;
        }
        if (first == OTHER || second == OTHER) {
            return OTHER;
        }
        if (first == NOTHING || second == NOTHING) {
            return NOTHING;
        }
        return shelves[p].held == shelves[q].held ? 0 : OTHER;
    }

    /** The refusal that the first n elements of the ROW in SHELF s meet, before they are looked at; 0 for none. */
    private int lackOfTold(int s, int n) {
        int lack = lackOfRow(s);
        if (lack != 0) {
            return lack;
        }
        if (n < 0) {
            return BELOW;
        }
        return n > shelves[s].length ? BEYOND : 0;
    }

    private static boolean isToldInPairs(int n) {
        return n <= MOST_TOLD && (n & 1) == 0;
    }

    /** A SHELF: NOTHING, the number of a SINGER, or a ROW, whose elements lie here whether it holds one or not. */
    private static final class Shelf {
        static final int SORTS = 4;
        static final int MOST_ELEMENTS = 160;
        private static final int FIRST_ROW = 100;

        int held = NONE;
        int length = 0;
        final long[] elements = new long[MOST_ELEMENTS];

        Shelf() {
        }

        boolean holdsRow() {
            return held >= FIRST_ROW;
        }

        void begin(int sort, int n) {
            held = FIRST_ROW + sort;
            length = Math.max(0, Math.min(n, MOST_ELEMENTS));
            for (int i = 0; i < length; i++) {
                elements[i] = 0L;
            }
        }

        boolean hasElement(int i) {
            return i >= 0 && i < length;
        }

        boolean hasElements(int i, int n) {
            // n is taken away rather than added, because i and n together may wrap
            return i >= 0 && n >= 0 && n <= length && i <= length - n;
        }

        void put(int i, long v) {
            if (!hasElement(i)) {
                return;
            }
            switch (held - FIRST_ROW) {
                case 0:
                    elements[i] = (byte) v;
                    break;
                case 1:
                    elements[i] = (short) v;
                    break;
                case 2:
                    elements[i] = (int) v;
                    break;
                default:
                    elements[i] = v;
                    break;
            }
        }

        int asInt(int i) {
            return hasElement(i) ? (int) elements[i] : NONE;
        }
    }

    /** The SINGERS and their PLACES. */
    private static final class Choir {
        static final int MOST_SINGERS = 8;
        static final int NEVER = -1;
        static final int[] ABOVE = {NONE, 0, 0, 1, 0, 2, 4};

        private static final int SINGER = 0;
        private static final int LEANER = 1;
        private static final int HIDER = 2;
        private static final int PROUD = 3;
        private static final int MUTE = 4;
        private static final int SHADOW = 5;
        private static final int DEAF = 6;

        final int[] kinds = new int[MOST_SINGERS];
        final int[] as = new int[MOST_SINGERS];
        final int[] odds = new int[MOST_SINGERS];
        final int[] places = new int[MOST_SINGERS];
        // at place + 1 the bit of who stands there, so that ahead of the first and behind the last there is 0
        final int[] standing = new int[MOST_SINGERS + 2];
        int count = 0;

        Choir() {
        }

        static boolean isKind(int kind) {
            return kind >= SINGER && kind <= DEAF;
        }

        static boolean isA(int a) {
            return a >= 0 && a <= 9;
        }

        static boolean isOdds(int odds) {
            return odds >= 1 && odds <= 9;
        }

        static boolean isUnder(int kind, int wanted) {
            int at = kind;
            for (int step = 0; step < ABOVE.length && isKind(at); step++) {
                if (at == wanted) {
                    return true;
                }
                at = ABOVE[at];
            }
            return false;
        }

        void copyOf(Choir other) {
            System.arraycopy(other.kinds, 0, kinds, 0, MOST_SINGERS);
            System.arraycopy(other.as, 0, as, 0, MOST_SINGERS);
            System.arraycopy(other.odds, 0, odds, 0, MOST_SINGERS);
            System.arraycopy(other.places, 0, places, 0, MOST_SINGERS);
            System.arraycopy(other.standing, 0, standing, 0, MOST_SINGERS + 2);
            count = other.count;
        }

        boolean has(int singer) {
            return singer >= 0 && singer < count;
        }

        boolean hasRoom() {
            return count < MOST_SINGERS;
        }

        int all() {
            return (1 << count) - 1;
        }

        boolean isSet(int set) {
            return set > 0 && set <= all();
        }

        void add(int kind, int a, int itsOdds) {
            if (!hasRoom()) {
                return;
            }
            kinds[count] = kind;
            as[count] = a;
            odds[count] = itsOdds;
            places[count] = count;
            standing[count + 1] = 1 << count;
            count++;
        }

        void exchange(int p, int q) {
            if (!has(p) || !has(q)) {
                return;
            }
            int place = places[p];
            places[p] = places[q];
            places[q] = place;
            standing[places[p] + 1] = 1 << p;
            standing[places[q] + 1] = 1 << q;
        }

        /** The SINGERS of a set that must be wrong too for one of them, if he is wrong, to be HEARD in it; or NEVER. */
        int wrongWith(int singer, int set) {
            if (singer < 0 || singer >= count) {
                return NEVER;
            }
            int place = places[singer];
            switch (kinds[singer]) {
                case SINGER:
                    return 0;
                case LEANER:
                    return set & standing[place];
                case PROUD:
                    return set & (standing[place] | standing[place + 2]);
                case HIDER:
                    return Integer.bitCount(set) <= as[singer] + 1 ? NEVER : 0;
                case SHADOW:
                    boolean atEnd = place == 0 || place == count - 1;
                    return atEnd || Integer.bitCount(set) <= as[singer] + 1 ? NEVER : 0;
                case DEAF:
                    return set == (1 << count) - 1 ? 0 : NEVER;
                default:
                    return NEVER;
            }
        }

        /** What one of the SINGERS says, taken for one of a KIND. */
        int tellsOf(int singer, int kind) {
            if (!has(singer)) {
                return NONE;
            }
            switch (kind) {
                case SINGER:
                    return places[singer];
                case LEANER:
                case PROUD:
                    int bit = standing[places[singer]];
                    return bit == 0 ? NONE : Integer.numberOfTrailingZeros(bit);
                case HIDER:
                case SHADOW:
                    return as[singer] + 2;
                default:
                    return as[singer];
            }
        }

        /** Whether those of a set stand one beside the other, without a gap. */
        boolean isWithoutGap(int set) {
            int spread = 0;
            for (int i = 0; i < count; i++) {
                if ((set >> i & 1) != 0) {
                    spread |= 1 << places[i];
                }
            }
            // the lowest bit added carries through a row of bits that has no gap
            int lowest = spread & -spread;
            return (spread + lowest & spread) == 0;
        }
    }

    /**
     * The WORLDS, and by which sets they sound wrong. Some of the WORLDS are told by two longs, low and high: that with
     * the number i by bit i of low, or, from 64 on, bit i - 64 of high.
     */
    private static final class Worlds {
        // of 8 SINGERS 8 alone, 28 pairs and 56 threes
        static final int MOST_WORLDS = 92;
        private static final int HALF = 64;
        private static final int SETS = 1 << Choir.MOST_SINGERS;

        final Choir choir;
        final int[] list = new int[MOST_WORLDS];
        final int[] weights = new int[MOST_WORLDS];
        int count = 0;
        private final long[] hasLow = new long[Choir.MOST_SINGERS];
        private final long[] hasHigh = new long[Choir.MOST_SINGERS];
        private final long[] wrongLow = new long[SETS];
        private final long[] wrongHigh = new long[SETS];
        // most calls ask for few sets: a set is figured out when it is first asked for
        private final boolean[] figured = new boolean[SETS];

        Worlds(Choir choir) {
            this.choir = choir;
        }

        /** Only the choir isn't copied: it is its owner's. */
        void copyOf(Worlds other) {
            System.arraycopy(other.list, 0, list, 0, MOST_WORLDS);
            System.arraycopy(other.weights, 0, weights, 0, MOST_WORLDS);
            count = other.count;
            System.arraycopy(other.hasLow, 0, hasLow, 0, Choir.MOST_SINGERS);
            System.arraycopy(other.hasHigh, 0, hasHigh, 0, Choir.MOST_SINGERS);
            System.arraycopy(other.wrongLow, 0, wrongLow, 0, SETS);
            System.arraycopy(other.wrongHigh, 0, wrongHigh, 0, SETS);
            System.arraycopy(other.figured, 0, figured, 0, SETS);
        }

        void build(int most) {
            count = 0;
            for (int i = 0; i < Choir.MOST_SINGERS; i++) {
                hasLow[i] = 0L;
                hasHigh[i] = 0L;
            }
            int all = choir.all();
            for (int size = 1; size <= most; size++) {
                for (int bits = 1; bits <= all; bits++) {
                    if (Integer.bitCount(bits) == size && count < MOST_WORLDS) {
                        add(bits);
                    }
                }
            }
            for (int set = 0; set < SETS; set++) {
                figured[set] = false;
            }
        }

        private void add(int bits) {
            int weight = 1;
            long low = lowBit(count);
            long high = highBit(count);
            for (int i = 0; i < choir.count; i++) {
                if ((bits >> i & 1) != 0) {
                    weight *= choir.odds[i];
                    hasLow[i] |= low;
                    hasHigh[i] |= high;
                }
            }
            list[count] = bits;
            weights[count] = weight;
            count++;
        }

        static long lowBit(int i) {
            return i >= 0 && i < HALF ? 1L << i : 0L;
        }

        static long highBit(int i) {
            return i >= HALF && i < 2 * HALF ? 1L << (i - HALF) : 0L;
        }

        static int countIn(long low, long high) {
            return Long.bitCount(low) + Long.bitCount(high);
        }

        static boolean isIn(int i, long low, long high) {
            return (low & lowBit(i)) != 0L || (high & highBit(i)) != 0L;
        }

        long allLow() {
            return count >= HALF ? -1L : (1L << count) - 1L;
        }

        long allHigh() {
            return count > HALF ? (1L << (count - HALF)) - 1L : 0L;
        }

        int indexOf(int world) {
            for (int i = 0; i < count; i++) {
                if (list[i] == world) {
                    return i;
                }
            }
            return NONE;
        }

        long weightIn(long low, long high) {
            long sum = 0L;
            for (int i = 0; i < count; i++) {
                if (isIn(i, low, high)) {
                    sum += weights[i];
                }
            }
            return sum;
        }

        /** Where a set's wrong WORLDS stand, figured out; what is no set has none, as the empty one at 0. */
        int slot(int set) {
            if (set <= 0 || set >= SETS || set > choir.all()) {
                return 0;
            }
            if (figured[set]) {
                return set;
            }
            long low = 0L;
            long high = 0L;
            for (int i = 0; i < choir.count; i++) {
                int with = (set >> i & 1) == 0 ? Choir.NEVER : choir.wrongWith(i, set);
                if (with != Choir.NEVER) {
                    long bothLow = hasLow[i];
                    long bothHigh = hasHigh[i];
                    for (int j = 0; j < choir.count; j++) {
                        if ((with >> j & 1) != 0) {
                            bothLow &= hasLow[j];
                            bothHigh &= hasHigh[j];
                        }
                    }
                    low |= bothLow;
                    high |= bothHigh;
                }
            }
            wrongLow[set] = low;
            wrongHigh[set] = high;
            figured[set] = true;
            return set;
        }

        /** The part of some WORLDS' lower ones that sounds so. */
        long lowBy(int set, int sound, long low) {
            long wrong = wrongLow[slot(set)];
            return sound == 1 ? low & wrong : low & ~wrong;
        }

        /** The part of some WORLDS' higher ones that sounds so. */
        long highBy(int set, int sound, long high) {
            long wrong = wrongHigh[slot(set)];
            return sound == 1 ? high & wrong : high & ~wrong;
        }

        int wrongAmong(int set, long low, long high) {
            int slot = slot(set);
            return Long.bitCount(low & wrongLow[slot]) + Long.bitCount(high & wrongHigh[slot]);
        }

        int soundOf(int set, int i) {
            int slot = slot(set);
            return isIn(i, wrongLow[slot], wrongHigh[slot]) ? 1 : 0;
        }

        /** PLACES were changed, be it only to try them: how all sound is to be figured out again. */
        void doubtAll() {
            if (choir.all() < SETS) {
                figured[choir.all()] = false;
            }
        }

        int rightWhenAllSing() {
            return count - wrongAmong(choir.all(), allLow(), allHigh());
        }

        boolean isRightWhenAllSing(int i) {
            return soundOf(choir.all(), i) == 0;
        }
    }

    /** All that an IMAGE is taken of: the SINGERS, the LAW, what is KNOWN, what is TRUE, SEED. */
    private static final class Hall {
        static final int MOST = 0;
        static final int LEAST = 1;
        static final int NEIGHBOURS = 2;
        static final int EAR = 3;
        private static final int RULES = 4;
        private static final int[] FEWEST = {1, 1, 0, 0};
        private static final int[] GREATEST = {3, 8, 1, 50};
        private static final int MOST_HEARINGS = 16;

        final Choir choir = new Choir();
        final Worlds worlds = new Worlds(choir);
        private final int[] rules = {1, 1, 0, 0};
        final int[] hearings = new int[MOST_HEARINGS];
        int hearingCount = 0;
        int seed = 1;
        private int truth = 0;
        // the POSSIBLE WORLDS
        long low = 0L;
        long high = 0L;

        Hall() {
        }

        static boolean suits(int what, int v) {
            return what >= 0 && what < RULES && v >= FEWEST[what] && v <= GREATEST[what];
        }

        int rule(int what) {
            return what >= 0 && what < RULES ? rules[what] : NONE;
        }

        void put(int what, int v) {
            if (!suits(what, v)) {
                return;
            }
            rules[what] = v;
            if (what == MOST) {
                beginAnew();
            }
        }

        void copyOf(Hall other) {
            choir.copyOf(other.choir);
            worlds.copyOf(other.worlds);
            System.arraycopy(other.rules, 0, rules, 0, RULES);
            System.arraycopy(other.hearings, 0, hearings, 0, MOST_HEARINGS);
            hearingCount = other.hearingCount;
            seed = other.seed;
            truth = other.truth;
            low = other.low;
            high = other.high;
        }

        private void beginAnew() {
            worlds.build(rules[MOST]);
            truth = 0;
            forgetAll();
        }

        void join(int kind, int a, int odds) {
            choir.add(kind, a, odds);
            beginAnew();
        }

        void changePlaces(int p, int q) {
            choir.exchange(p, q);
            beginAnew();
        }

        void makeTrue(int index) {
            truth = index;
            forgetAll();
        }

        int trueWorld() {
            return truth >= 0 && truth < worlds.count ? worlds.list[truth] : 0;
        }

        int soundInTruth(int set) {
            return worlds.soundOf(set, truth);
        }

        void forgetAll() {
            hearingCount = 0;
            low = worlds.allLow();
            high = worlds.allHigh();
        }

        boolean hasRoom() {
            return hearingCount < MOST_HEARINGS;
        }

        int possible() {
            return Worlds.countIn(low, high);
        }

        /** The WORLD that is the n-th of the POSSIBLE ones. */
        int possibleWorld(int n) {
            int left = n;
            for (int i = 0; i < worlds.count; i++) {
                if (Worlds.isIn(i, low, high)) {
                    if (left == 0) {
                        return worlds.list[i];
                    }
                    left--;
                }
            }
            return NONE;
        }

        boolean canSound(int set, int sound) {
            if (sound < 0 || sound > 1) {
                return false;
            }
            return worlds.lowBy(set, sound, low) != 0L || worlds.highBy(set, sound, high) != 0L;
        }

        boolean isKnown(int set, int sound) {
            for (int i = 0; i < hearingCount; i++) {
                if (hearings[i] == 2 * set + sound) {
                    return true;
                }
            }
            return false;
        }

        void learn(int set, int sound) {
            if (isKnown(set, sound) || !hasRoom()) {
                return;
            }
            hearings[hearingCount] = 2 * set + sound;
            hearingCount++;
            low = worlds.lowBy(set, sound, low);
            high = worlds.highBy(set, sound, high);
        }

        int wrongInSome() {
            int some = 0;
            for (int i = 0; i < worlds.count; i++) {
                if (Worlds.isIn(i, low, high)) {
                    some |= worlds.list[i];
                }
            }
            return some;
        }

        int wrongInAll() {
            int every = possible() == 0 ? 0 : choir.all();
            for (int i = 0; i < worlds.count; i++) {
                if (Worlds.isIn(i, low, high)) {
                    every &= worlds.list[i];
                }
            }
            return every;
        }

        int likely(int singer) {
            long his = 0L;
            long weight = 0L;
            for (int i = 0; i < worlds.count; i++) {
                if (Worlds.isIn(i, low, high)) {
                    weight += worlds.weights[i];
                    his += (worlds.list[i] >> singer & 1) * (long) worlds.weights[i];
                }
            }
            return weight == 0L ? 0 : (int) (1000L * his / weight);
        }

        int likeliestWorld() {
            int found = NONE;
            int weight = 0;
            for (int i = 0; i < worlds.count; i++) {
                if (Worlds.isIn(i, low, high) && worlds.weights[i] > weight) {
                    weight = worlds.weights[i];
                    found = worlds.list[i];
                }
            }
            return found;
        }

        boolean allows(int set) {
            if (!choir.isSet(set) || Integer.bitCount(set) < rules[LEAST]) {
                return false;
            }
            return rules[NEIGHBOURS] == 0 || choir.isWithoutGap(set);
        }

        /** NEXT, if some WORLDS are those that are POSSIBLE. */
        int best(long someLow, long someHigh) {
            int some = Worlds.countIn(someLow, someHigh);
            // a set that leaves fewer than all of them at worst is one by which both parts have any
            int least = some;
            int found = NONE;
            // most ends of BY NEXT are single WORLDS, by which no set need be tried
            int last = some < 2 ? 0 : choir.all();
            for (int set = 1; set <= last; set++) {
                if (allows(set)) {
                    int wrong = worlds.wrongAmong(set, someLow, someHigh);
                    int worst = Math.max(wrong, some - wrong);
                    if (worst < least) {
                        least = worst;
                        found = set;
                    }
                }
            }
            return found;
        }

        private int draw(int below) {
            seed = seed * 1103515245 + 12345;
            return below > 0 ? (seed >>> 16) % below : 0;
        }

        int evening() {
            makeTrue(draw(worlds.count));
            for (int step = 0; step < MOST_HEARINGS && hasRoom(); step++) {
                int set = best(low, high);
                if (set == NONE) {
                    break;
                }
                learn(set, soundInTruth(set));
            }
            return hearingCount;
        }

        private void exchangeForTrial(int p, int q) {
            choir.exchange(p, q);
            worlds.doubtAll();
        }

        /** BESIDE. */
        int firstToChange() {
            boolean right = worlds.isRightWhenAllSing(truth);
            int found = NONE;
            for (int i = 0; i < choir.count && !right; i++) {
                for (int j = i + 1; j < choir.count && !right; j++) {
                    exchangeForTrial(i, j);
                    right = worlds.isRightWhenAllSing(truth);
                    exchangeForTrial(i, j);
                    if (right) {
                        found = 100 * i + j;
                    }
                }
            }
            return found;
        }

        /** QUIET. */
        int mostQuiet() {
            int most = worlds.rightWhenAllSing();
            for (int i = 0; i < choir.count; i++) {
                for (int j = i + 1; j < choir.count; j++) {
                    exchangeForTrial(i, j);
                    most = Math.max(most, worlds.rightWhenAllSing());
                    exchangeForTrial(i, j);
                }
            }
            return most;
        }
    }

    /** BY NEXT: all ways that an evening may go. */
    private static final class Course {
        // what lies on the heap at once are parts of the WORLDS with none in common, and each has one at least
        private static final int HEAP = Worlds.MOST_WORLDS + 2;
        private static final int MOST_STEPS = 1000000;

        private final long[] lows = new long[HEAP];
        private final long[] highs = new long[HEAP];
        private final int[] depths = new int[HEAP];
        private int size = 0;
        private long hearings = 0L;
        private long weight = 0L;
        int worst = 0;
        int left = 0;

        Course() {
        }

        void follow(Hall hall) {
            worst = 0;
            left = 0;
            hearings = 0L;
            weight = hall.worlds.weightIn(hall.low, hall.high);
            size = 0;
            lay(hall.low, hall.high, 0);
            for (int step = 0; step < MOST_STEPS && size > 0; step++) {
                size--;
                long low = lows[size];
                long high = highs[size];
                int depth = depths[size];
                int set = hall.best(low, high);
                if (set == NONE) {
                    worst = Math.max(worst, depth);
                    left = Math.max(left, Worlds.countIn(low, high));
                    hearings += depth * hall.worlds.weightIn(low, high);
                } else {
                    lay(hall.worlds.lowBy(set, 1, low), hall.worlds.highBy(set, 1, high), depth + 1);
                    lay(hall.worlds.lowBy(set, 0, low), hall.worlds.highBy(set, 0, high), depth + 1);
                }
            }
        }

        private void lay(long low, long high, int depth) {
            if (size < HEAP) {
                lows[size] = low;
                highs[size] = high;
                depths[size] = depth;
                size++;
            }
        }

        int mean() {
            return weight == 0L ? 0 : (int) (1000L * hearings / weight);
        }
    }

    /** ROWS of sets, or of sets and sounds by turns. */
    private static final class Told {
        private final int[] rows = new int[Worlds.MOST_WORLDS];
        private final int[] having = new int[Worlds.MOST_WORLDS];
        int unlike = 0;
        int alike = 0;
        // the WORLDS that are POSSIBLE behind the elements of a told evening that aren't WRONG
        long low = 0L;
        long high = 0L;

        Told() {
        }

        boolean areSets(Hall hall, Shelf row, int n) {
            for (int k = 0; k < n; k++) {
                if (!hall.choir.isSet(row.asInt(k))) {
                    return false;
                }
            }
            return true;
        }

        boolean arePairs(Hall hall, Shelf row, int n) {
            for (int k = 0; k < n; k++) {
                int element = row.asInt(k);
                boolean stands = (k & 1) == 0 ? hall.choir.isSet(element) : element == 0 || element == 1;
                if (!stands) {
                    return false;
                }
            }
            return true;
        }

        /** TOLD AHEAD: how many unlike rows of sounds, and how many of the POSSIBLE have the commonest. */
        void sortOut(Hall hall, Shelf row, int n) {
            unlike = 0;
            alike = 0;
            for (int i = 0; i < hall.worlds.count; i++) {
                if (Worlds.isIn(i, hall.low, hall.high)) {
                    int mine = 0;
                    for (int k = 0; k < n; k++) {
                        mine = 2 * mine + hall.worlds.soundOf(row.asInt(k), i);
                    }
                    sortIn(mine);
                }
            }
        }

        private void sortIn(int mine) {
            int at = 0;
            while (at < unlike && rows[at] != mine) {
                at++;
            }
            if (at == unlike && unlike < rows.length) {
                rows[at] = mine;
                having[at] = 0;
                unlike++;
            }
            if (at < unlike) {
                having[at]++;
                alike = Math.max(alike, having[at]);
            }
        }

        /** WRONG of a told evening. */
        int firstWrong(Hall hall, Shelf row, int n) {
            low = hall.low;
            high = hall.high;
            int set = 0;
            for (int k = 0; k < n; k++) {
                int element = row.asInt(k);
                if ((k & 1) == 0) {
                    set = element;
                    if (!hall.allows(set)) {
                        return k;
                    }
                } else {
                    if (element < 0 || element > 1) {
                        return k;
                    }
                    low = hall.worlds.lowBy(set, element, low);
                    high = hall.worlds.highBy(set, element, high);
                    if (low == 0L && high == 0L) {
                        return k;
                    }
                }
            }
            return NONE;
        }

        /** BY EAR. */
        int likeliestByEar(Hall hall, Shelf row, int n) {
            int ear = hall.rule(Hall.EAR);
            long most = -1L;
            int found = NONE;
            for (int i = 0; i < hall.worlds.count; i++) {
                long mine = 10000L * hall.worlds.weights[i];
                for (int k = 0; k + 1 < n; k += 2) {
                    boolean so = hall.worlds.soundOf(row.asInt(k), i) == row.asInt(k + 1);
                    mine = mine * (so ? 100 - ear : ear) / 100L;
                }
                if (mine > most) {
                    most = mine;
                    found = hall.worlds.list[i];
                }
            }
            return found;
        }
    }

    /** Reads a LOFT from a ROW of letters and tells it to a hall, item by item. */
    private static final class Reader {
        private static final int SINGER = 0;
        private static final int MOST = 1;
        private static final int EAR = 4;
        private static final int HEARD = 5;
        private static final int WORDS = 7;
        private static final int[] WANTED = {3, 1, 1, 1, 1, 2, 2};
        private static final int MOST_DIGITS = 3;

        private final int[] numbers = new int[3];
        private Shelf text = null;
        private int at = 0;
        int fault = NONE;

        Reader() {
        }

        void begin(Shelf row) {
            text = row;
            at = 0;
            fault = NONE;
        }

        /** Whether another ITEM is wanted behind the latest; what is neither that nor the end is the FAULT. */
        boolean goesOn() {
            return text != null && at < text.length && stands(';');
        }

        private boolean fails(int place) {
            fault = place;
            return false;
        }

        private int sign(int i) {
            return text == null ? NONE : text.asInt(i);
        }

        /** Steps over a sign; if another stands here, or none, that is the FAULT. */
        private boolean stands(char wanted) {
            if (sign(at) != wanted) {
                return fails(at);
            }
            at++;
            return true;
        }

        /** Reads one ITEM and tells it; false: there is a FAULT. */
        boolean readItem(Hall hall) {
            int start = at;
            int word = readWord();
            if (word == NONE) {
                return false;
            }
            if ((word == SINGER && !hall.choir.hasRoom()) || (word == HEARD && !hall.hasRoom())) {
                return fails(start);
            }
            for (int i = 0; i < WANTED[word]; i++) {
                if (!stands(' ')) {
                    return false;
                }
                int first = at;
                if (!readNumber(i)) {
                    return false;
                }
                if (!fits(hall, word, i)) {
                    return fails(first);
                }
            }
            tell(hall, word);
            return true;
        }

        private static String spelled(int word) {
            switch (word) {
                case 0:
                    return "singer";
                case 1:
                    return "most";
                case 2:
                    return "least";
                case 3:
                    return "near";
                case 4:
                    return "ear";
                case 5:
                    return "heard";
                default:
                    return "swap";
            }
        }

        private int readWord() {
            int furthest = 0;
            for (int word = 0; word < WORDS; word++) {
                String letters = spelled(word);
                int same = 0;
                while (same < letters.length() && sign(at + same) == letters.charAt(same)) {
                    same++;
                }
                if (same == letters.length()) {
                    at += same;
                    return word;
                }
                furthest = Math.max(furthest, same);
            }
            fault = at + furthest;
            return NONE;
        }

        private boolean readNumber(int i) {
            int first = at;
            int value = 0;
            while (at - first < MOST_DIGITS && sign(at) >= '0' && sign(at) <= '9') {
                value = 10 * value + (sign(at) - '0');
                at++;
            }
            if (at == first || i < 0 || i >= numbers.length) {
                return fails(at);
            }
            numbers[i] = value;
            return true;
        }

        /** Whether the i-th number of an ITEM may be, those ahead of it being what they are. */
        private boolean fits(Hall hall, int word, int i) {
            int value = i >= 0 && i < numbers.length ? numbers[i] : NONE;
            if (word == SINGER) {
                return i == 0 ? Choir.isKind(value) : i == 1 ? Choir.isA(value) : Choir.isOdds(value);
            }
            if (word <= EAR) {
                return Hall.suits(word - MOST, value);
            }
            if (word == HEARD) {
                return i == 0 ? hall.choir.isSet(value) : hall.canSound(numbers[0], value);
            }
            return hall.choir.has(value) && (i == 0 || value != numbers[0]);
        }

        private void tell(Hall hall, int word) {
            if (word == SINGER) {
                hall.join(numbers[0], numbers[1], numbers[2]);
            } else if (word <= EAR) {
                hall.put(word - MOST, numbers[0]);
            } else if (word == HEARD) {
                hall.learn(numbers[0], numbers[1]);
            } else {
                hall.changePlaces(numbers[0], numbers[1]);
            }
        }
    }

    /** The ACTS, and THE TRACE of the latest. */
    private static final class Voice {
        static final int ACTS = 3;
        private static final int SINGS = 0;
        private static final int HEARS = 1;
        private static final int LEANS = 2;
        // the body of a KIND for an act at 3 * KIND + act, 0 where it has none of its own
        private static final int[] BODIES = {
            10, 11, 12,
            20, 0, 0,
            0, 30, 0,
            0, 40, 0,
            51, 0, 50,
            0, 0, 60,
            70, 71, 0
        };
        private static final int KEPT = 20;
        // the deepest act, DEAF leans, has seven bodies open at once
        private static final int DEEPEST = 20;

        private final int[] kept = new int[KEPT];
        int ran = 0;
        private int kind = 0;
        private int m = 0;
        private int k = 0;

        Voice() {
        }

        void silence() {
            ran = 0;
        }

        int traced(int i) {
            return i >= 0 && i < KEPT && i < ran ? kept[i] : NONE;
        }

        int perform(Choir choir, int singer, int act, int x) {
            if (!choir.has(singer)) {
                return 0;
            }
            kind = choir.kinds[singer];
            m = singer;
            k = choir.as[singer];
            return run(this, kind, act, x, 0);
        }

        private void note(int body) {
            if (ran < KEPT) {
                kept[ran] = body;
            }
            ran++;
        }

        /** The KIND, from one upwards, that has a body for an act. */
        private static int owner(int from, int act) {
            int at = from;
            for (int step = 0; step < Choir.ABOVE.length && Choir.isKind(at); step++) {
                if (BODIES[ACTS * at + act] != 0) {
                    return at;
                }
                at = Choir.ABOVE[at];
            }
            return NONE;
        }

        private static int run(Voice v, int from, int act, int x, int depth) {
            int owner = owner(from, act);
            if (owner == NONE || depth >= DEEPEST) {
                return 0;
            }
            int body = BODIES[ACTS * owner + act];
            int above = Choir.ABOVE[owner];
            int d = depth + 1;
            v.note(body);
            switch (body) {
                case 10:
                    return x + v.m;
                case 11:
                    return run(v, v.kind, SINGS, x, d) * 2;
                case 12:
                    return run(v, v.kind, HEARS, x, d) ^ run(v, v.kind, SINGS, x - v.k, d);
                case 20:
                    return run(v, above, SINGS, x, d) + v.k;
                case 30:
                    return run(v, above, HEARS, x, d) * 3;
                case 40:
                    return run(v, above, HEARS, x + 1, d);
                case 50:
                    return -run(v, above, LEANS, x, d);
                case 51:
                    return run(v, above, SINGS, x, d) - v.m;
                case 60:
                    return run(v, above, LEANS, x, d) ^ 5;
                case 70:
                    return run(v, above, SINGS, x, d) * 2;
                default:
                    return run(v, above, HEARS, x - v.k, d);
            }
        }
    }
}
