/**
 * Rows that say no for sure: keys of a small world, led by told laws to places.
 * What each call promises stands in the document; here stands how it is kept.
 */
public final class SureNoes {
    public static final int NONE = -1, SPENT = -2, UNKNOWN = -101, OUTSIDE = -102, STATE = -103, FULL = -104;

    private static final int PLAIN = 0, COUNTED = 1, PARTED = 2, PUSHED = 3, FOLDED = 4, LAYERED = 5;
    private static final int KEYS = 32;
    private static final long ALL_KEYS = 0xFFFFFFFFL;
    private static final int PRIME = 37;
    private static final int MARKS = 7;
    private static final int LEAST_SIZE = 2, LEAST_FOLDED_SIZE = 3, MOST_SIZE = 32;
    private static final int MOST_LAWS = 8, MOST_BOOKS = 8, MOST_LAWS_OF_BOOK = 3;
    private static final int MOST_TIMES = 99;
    private static final int MOST_SOUGHT = 12;
    private static final int MOST_ORDERED = 6, MOST_ORDERS = 720;

    private final Law[] toldLaws = new Law[MOST_LAWS];
    private int lawCount = 0;
    private final Book[] toldBooks = new Book[MOST_BOOKS];
    private int bookCount = 0;
    /** For each key its places in the book that a search is about. */
    private final long[] spots = new long[KEYS];
    private Cover cover = null;

    public SureNoes() {
    }

    // ---- laws

    public int law(int a, int b) {
        if (a < 1 || a >= PRIME || b < 0 || b >= PRIME) {
            return OUTSIDE;
        }
        if (lawCount >= MOST_LAWS) {
            return FULL;
        }
        toldLaws[lawCount] = new Law(a, b);
        lawCount++;
        return lawCount - 1;
    }

    public int value(int law, int key) {
        if (!isLaw(law) || !isKey(key)) {
            return UNKNOWN;
        }
        return toldLaws[law].valueFor(key);
    }

    public int odds(long set, int key, int m, int part) {
        if (!isSet(set) || !isSize(m) || part < 0 || part > 1) {
            return OUTSIDE;
        }
        if (!isKey(key) || has(set, key)) {
            return UNKNOWN;
        }
        int met = 0;
        int all = 0;
        for (int a = 1; a < PRIME; a++) {
            for (int b = 0; b < PRIME; b++) {
                all++;
                if (has(placesOfSet(set, a, b, m), placeBy(a, b, key, m))) {
                    met++;
                }
            }
        }
        int divisor = commonDivisor(all, met);
        int told = part == 0 ? met : all;
        return divisor > 0 ? told / divisor : told;
    }

    public int best(long set, int m, int what) {
        if (!isSet(set) || !isSize(m) || what < 0 || what > 2) {
            return OUTSIDE;
        }
        int least = KEYS + 1;
        int leastA = 0;
        int leastB = 0;
        for (int a = 1; a < PRIME; a++) {
            for (int b = 0; b < PRIME; b++) {
                int met = strangersMet(set, a, b, m);
                if (met < least) {
                    least = met;
                    leastA = a;
                    leastB = b;
                }
            }
        }
        return what == 0 ? least : what == 1 ? leastA : leastB;
    }

    public int fewest(long set, int law, int e) {
        if (!isLaw(law)) {
            return UNKNOWN;
        }
        if (!isSet(set) || e < 0 || e >= KEYS) {
            return OUTSIDE;
        }
        Law told = toldLaws[law];
        for (int m = LEAST_SIZE; m <= MOST_SIZE; m++) {
            if (strangersMet(set, told.a, told.b, m) <= e) {
                return m;
            }
        }
        return NONE;
    }

    // ---- books

    public int book(int kind, int m, int laws) {
        if (!isKind(kind) || !isSize(m) || (kind == FOLDED && m < LEAST_FOLDED_SIZE)) {
            return OUTSIDE;
        }
        if (!areLawsFor(kind, laws)) {
            return UNKNOWN;
        }
        if (bookCount >= MOST_BOOKS) {
            return FULL;
        }
        return keep(newBook(kind, m, laws, lawsOf(laws)));
    }

    public int as(int book, int kind) {
        Book told = find(book);
        if (told == null) {
            return UNKNOWN;
        }
        if (!isKind(kind)) {
            return OUTSIDE;
        }
        return isOfKind(told, kind) ? book : NONE;
    }

    public int about(int book, int what) {
        Book told = find(book);
        if (told == null) {
            return UNKNOWN;
        }
        switch (what) {
            case 0: return told.kind;
            case 1: return told.size;
            case 2: return told.lawBits;
            case 3: return Long.bitCount(told.filledPlaces());
            case 4: return Long.bitCount(told.keysReally());
            case 5: return told.rowCount();
            default: return OUTSIDE;
        }
    }

    public int at(int book, int place) {
        Book told = find(book);
        if (told == null || place < 0 || place >= told.size) {
            return UNKNOWN;
        }
        return told.numbers[place];
    }

    public long row(int book, int row) {
        Book told = find(book);
        if (told == null || row < 0 || row >= told.rowCount()) {
            return UNKNOWN;
        }
        return told.rowBits(row);
    }

    public long places(int book, int key) {
        Book told = find(book);
        if (told == null || !isKey(key)) {
            return UNKNOWN;
        }
        return told.placeBits(key);
    }

    public int put(int book, int key) {
        Book told = find(book);
        if (told == null || !isKey(key)) {
            return UNKNOWN;
        }
        if (!told.letsPut() || told.times[key] >= MOST_TIMES) {
            return STATE;
        }
        boolean ahead = told.holds(key);
        if (!told.insert(key)) {
            return FULL;
        }
        told.times[key]++;
        return ahead ? 1 : 0;
    }

    public int take(int book, int key) {
        Book told = find(book);
        if (told == null || !isKey(key)) {
            return UNKNOWN;
        }
        if (!told.letsTake() || !told.holds(key)) {
            return STATE;
        }
        told.remove(key);
        if (told.times[key] == 0) {
            return 0;
        }
        told.times[key]--;
        return 1;
    }

    public int build(int book, long set, long out) {
        Book told = find(book);
        if (told == null) {
            return UNKNOWN;
        }
        if (!isSet(set) || !isSet(out) || (set & out) != 0 || (told.kind == FOLDED && out != 0)) {
            return OUTSIDE;
        }
        if (!told.rebuild(set, out)) {
            return STATE;
        }
        for (int key = 0; key < KEYS; key++) {
            told.times[key] = has(set, key) ? 1 : 0;
        }
        return Long.bitCount(set);
    }

    public int real(int book, int key) {
        Book told = find(book);
        if (told == null || !isKey(key)) {
            return UNKNOWN;
        }
        return told.times[key];
    }

    public long keys(int book, int what) {
        Book told = find(book);
        if (told == null) {
            return UNKNOWN;
        }
        switch (what) {
            case 0: return told.keysHeld();
            case 1: return told.keysHeld() & ~told.keysReally();
            case 2: return told.keysReally() & ~told.keysHeld();
            case 3: return told.keysReally();
            default: return OUTSIDE;
        }
    }

    public int join(int a, int b, boolean meets) {
        Book one = find(a);
        Book other = find(b);
        if (one == null || other == null) {
            return UNKNOWN;
        }
        if (!isPlainOrParted(one) || one.kind != other.kind || one.size != other.size
                || one.lawBits != other.lawBits) {
            return STATE;
        }
        if (bookCount >= MOST_BOOKS) {
            return FULL;
        }
        Book joined = newBook(one.kind, one.size, one.lawBits, one.ruling);
        for (int place = 0; place < joined.size; place++) {
            joined.numbers[place] = either(one.numbers[place], other.numbers[place], meets);
        }
        for (int key = 0; key < KEYS; key++) {
            joined.times[key] = either(one.times[key], other.times[key], meets);
        }
        return keep(joined);
    }

    public int halve(int book) {
        Book told = find(book);
        if (told == null) {
            return UNKNOWN;
        }
        int half = told.size / 2;
        if (told.kind != PLAIN || half < LEAST_SIZE || half * 2 != told.size) {
            return STATE;
        }
        if (bookCount >= MOST_BOOKS) {
            return FULL;
        }
        Book halved = newBook(PLAIN, half, told.lawBits, told.ruling);
        for (int place = 0; place < half; place++) {
            halved.numbers[place] = Math.max(told.numbers[place], told.numbers[place + half]);
        }
        System.arraycopy(told.times, 0, halved.times, 0, KEYS);
        return keep(halved);
    }

    // ---- what could be

    public long spoil(int book, int key) {
        Book told = find(book);
        if (told == null || !isKey(key)) {
            return UNKNOWN;
        }
        if (!isPlainOrParted(told) && told.kind != COUNTED) {
            return STATE;
        }
        long missing = told.placeBits(key) & ~told.filledPlaces();
        if (missing == 0) {
            return 0;
        }
        noteSpots(told);
        // A key without places fills nothing, so it can never be one of the fewest.
        spots[key] = 0;
        for (int many = 1; many <= MOST_LAWS_OF_BOOK; many++) {
            long found = leastFilling(spots, missing, many, KEYS);
            if (found != NONE) {
                return found;
            }
        }
        return NONE;
    }

    public long made(int book, int what) {
        Book told = find(book);
        if (told == null) {
            return UNKNOWN;
        }
        if (what < 0 || what > 3) {
            return OUTSIDE;
        }
        if (!isPlainOrParted(told)) {
            return STATE;
        }
        noteSpots(told);
        long filled = told.filledPlaces();
        if (what >= 2) {
            return what == 2 ? sureMakers(filled) : makers(filled);
        }
        if (Long.bitCount(filled) > MOST_SOUGHT) {
            return SPENT;
        }
        if (cover == null) {
            cover = new Cover();
        }
        long least = cover.leastSet(spots, filled);
        if (least == Cover.NO_SET) {
            return NONE;
        }
        return what == 0 ? least / Cover.ONE_KEY : least & ALL_KEYS;
    }

    public int order(int book, long set, int i) {
        Book told = find(book);
        if (told == null) {
            return UNKNOWN;
        }
        if (!isSet(set) || Long.bitCount(set) > MOST_ORDERED || i < 0 || i >= MOST_ORDERED) {
            return OUTSIDE;
        }
        return told instanceof Pushed pushed ? pushed.orderedKey(set, i) : STATE;
    }

    public int most(int book, long set) {
        Book told = find(book);
        if (told == null) {
            return UNKNOWN;
        }
        if (!isSet(set)) {
            return OUTSIDE;
        }
        return told instanceof Pushed pushed ? pushed.mostAtOnce(set) : STATE;
    }

    // ---- what is told

    public int count(int what) {
        switch (what) {
            case 0: return lawCount;
            case 1: return bookCount;
            case 2: return Long.bitCount(keysReallySomewhere());
            case 3: return Long.bitCount(keysHeldEverywhere());
            default: return OUTSIDE;
        }
    }

    public long digest() {
        long h = 367;
        for (int law = 0; law < lawCount; law++) {
            for (int key = 0; key < KEYS; key++) {
                h = 31 * h + value(law, key);
            }
        }
        for (int book = 0; book < bookCount; book++) {
            h = digestOfBook(h, book);
        }
        for (int what = 0; what <= 3; what++) {
            h = 31 * h + count(what);
        }
        return h;
    }

    // ---- what is asked of arguments

    private static boolean isKey(int key) {
        return key >= 0 && key < KEYS;
    }

    private static boolean isSet(long set) {
        return set >= 0 && set <= ALL_KEYS;
    }

    private static boolean isSize(int m) {
        return m >= LEAST_SIZE && m <= MOST_SIZE;
    }

    private static boolean isKind(int kind) {
        return kind >= PLAIN && kind <= LAYERED;
    }

    private boolean isLaw(int law) {
        return law >= 0 && law < lawCount;
    }

    private boolean areLawsFor(int kind, int bits) {
        if (bits < 0 || bits >= 1 << lawCount) {
            return false;
        }
        int many = Integer.bitCount(bits);
        if (kind == PUSHED) {
            return many == 2;
        }
        if (kind == FOLDED) {
            return many == 3;
        }
        return many >= 1 && many <= MOST_LAWS_OF_BOOK;
    }

    private Book find(int book) {
        return book >= 0 && book < bookCount ? toldBooks[book] : null;
    }

    private static boolean isPlainOrParted(Book told) {
        return told.kind == PLAIN || told.kind == PARTED;
    }

    private static boolean isOfKind(Book told, int kind) {
        switch (kind) {
            case PLAIN: return told instanceof Plain;
            case COUNTED: return told instanceof Counted;
            case PARTED: return told instanceof Parted;
            case PUSHED: return told instanceof Pushed;
            case FOLDED: return told instanceof Folded;
            default: return told instanceof Layered;
        }
    }

    // ---- numbers and bits

    private static boolean has(long bits, int bit) {
        return (bits >> bit & 1) != 0;
    }

    private static int rest(int number, int divisor) {
        if (divisor <= 0) {
            return 0;
        }
        int left = number % divisor;
        return left < 0 ? left + divisor : left;
    }

    private static int either(int one, int other, boolean lesser) {
        return lesser ? Math.min(one, other) : Math.max(one, other);
    }

    private static int commonDivisor(int one, int other) {
        int greater = one;
        int lesser = other;
        // Each two rounds halve the greater one, so 64 are enough for any int.
        for (int round = 0; round < 64 && lesser > 0; round++) {
            int left = rest(greater, lesser);
            greater = lesser;
            lesser = left;
        }
        return greater;
    }

    private static int placeBy(int a, int b, int key, int m) {
        return m > 0 ? (a * key + b) % PRIME % m : 0;
    }

    private static long placesOfSet(long set, int a, int b, int m) {
        long met = 0;
        for (int key = 0; key < KEYS; key++) {
            if (has(set, key)) {
                met |= 1L << placeBy(a, b, key, m);
            }
        }
        return met;
    }

    /** How many keys not of the set have places of keys of the set. */
    private static int strangersMet(long set, int a, int b, int m) {
        long met = placesOfSet(set, a, b, m);
        int many = 0;
        for (int key = 0; key < KEYS; key++) {
            if (!has(set, key) && has(met, placeBy(a, b, key, m))) {
                many++;
            }
        }
        return many;
    }

    // ---- making and keeping books

    private Law[] lawsOf(int bits) {
        Law[] ruling = new Law[Integer.bitCount(bits)];
        int next = 0;
        for (int law = 0; law < lawCount; law++) {
            if (has(bits, law) && next < ruling.length) {
                ruling[next] = toldLaws[law];
                next++;
            }
        }
        return ruling;
    }

    private static Book newBook(int kind, int size, int lawBits, Law[] ruling) {
        switch (kind) {
            case PLAIN: return new Plain(PLAIN, size, lawBits, ruling);
            case COUNTED: return new Counted(size, lawBits, ruling);
            case PARTED: return new Parted(PARTED, size, lawBits, ruling);
            case PUSHED: return new Pushed(size, lawBits, ruling);
            case FOLDED: return new Folded(size, lawBits, ruling);
            default: return new Layered(size, lawBits, ruling);
        }
    }

    private int keep(Book told) {
        if (bookCount >= MOST_BOOKS) {
            return FULL;
        }
        toldBooks[bookCount] = told;
        bookCount++;
        return bookCount - 1;
    }

    // ---- searches

    private void noteSpots(Book told) {
        for (int key = 0; key < KEYS; key++) {
            spots[key] = told.placeBits(key);
        }
    }

    /**
     * The set of least bits of just so many keys below a bound that fill what is missing, or NONE.
     * The greatest key weighs most in the bits, so it is chosen first and as small as can be.
     */
    private static long leastFilling(long[] spots, long missing, int many, int bound) {
        if (many <= 0) {
            return missing == 0 ? 0 : NONE;
        }
        for (int key = many - 1; key < bound && key < spots.length; key++) {
            if ((spots[key] & missing) != 0) {
                long lower = leastFilling(spots, missing & ~spots[key], many - 1, key);
                if (lower != NONE) {
                    return lower | 1L << key;
                }
            }
        }
        return NONE;
    }

    /** Keys of some set that can have filled just these places: all that fill no other ones. */
    private long makers(long filled) {
        long may = 0;
        long reached = 0;
        for (int key = 0; key < KEYS; key++) {
            if ((spots[key] & ~filled) == 0) {
                may |= 1L << key;
                reached |= spots[key];
            }
        }
        return reached == filled ? may : 0;
    }

    /** Keys of every such set: those that alone reach some place. */
    private long sureMakers(long filled) {
        long may = makers(filled);
        long once = 0;
        long twice = 0;
        for (int key = 0; key < KEYS; key++) {
            if (has(may, key)) {
                twice |= once & spots[key];
                once |= spots[key];
            }
        }
        long sure = 0;
        for (int key = 0; key < KEYS; key++) {
            if (has(may, key) && (spots[key] & once & ~twice) != 0) {
                sure |= 1L << key;
            }
        }
        return sure;
    }

    // ---- over all books

    private long keysReallySomewhere() {
        long some = 0;
        for (int book = 0; book < bookCount; book++) {
            some |= toldBooks[book].keysReally();
        }
        return some;
    }

    private long keysHeldEverywhere() {
        long all = bookCount == 0 ? 0 : ALL_KEYS;
        for (int book = 0; book < bookCount; book++) {
            all &= toldBooks[book].keysHeld();
        }
        return all;
    }

    private long digestOfBook(long before, int book) {
        long h = before;
        for (int what = 0; what <= 5; what++) {
            h = 31 * h + about(book, what);
        }
        int size = about(book, 1);
        for (int place = 0; place < size; place++) {
            h = 31 * h + at(book, place);
        }
        int rows = about(book, 5);
        for (int row = 0; row < rows; row++) {
            h = 31 * h + row(book, row);
        }
        for (int what = 0; what <= 3; what++) {
            h = 31 * h + keys(book, what);
        }
        return h;
    }

    // ---- the classes inside

    private static final class Law {
        final int a;
        final int b;

        Law(int a, int b) {
            this.a = a;
            this.b = b;
        }

        int valueFor(int key) {
            return (a * key + b) % PRIME;
        }

        int placeFor(int key, int m) {
            return m > 0 ? (a * key + b) % PRIME % m : 0;
        }

        int markFor(int key) {
            return (a * key + b) % PRIME % MARKS + 1;
        }
    }

    private abstract static class Book {
        final int kind;
        final int size;
        final int lawBits;
        final Law[] ruling;
        final int[] numbers;
        /** How often each key is really there. */
        final int[] times;

        Book(int kind, int size, int lawBits, Law[] ruling) {
            this.kind = kind;
            this.size = size;
            this.lawBits = lawBits;
            this.ruling = ruling;
            this.numbers = new int[MOST_SIZE];
            this.times = new int[KEYS];
        }

        abstract long placeBits(int key);

        /** Whether the key is in, be it really or falsely. */
        abstract boolean holds(int key);

        abstract boolean letsPut();

        /** Puts the key in, or changes nothing and answers false if there is no room. */
        abstract boolean insert(int key);

        boolean letsTake() {
            return false;
        }

        void remove(int key) {
        }

        /** Makes the book anew over a set, or changes nothing and answers false if it cannot be. */
        boolean rebuild(long set, long out) {
            return false;
        }

        int rowCount() {
            return 0;
        }

        long rowBits(int row) {
            return 0;
        }

        final long filledPlaces() {
            long filled = 0;
            for (int place = 0; place < size; place++) {
                if (numbers[place] > 0) {
                    filled |= 1L << place;
                }
            }
            return filled;
        }

        final long keysHeld() {
            long held = 0;
            for (int key = 0; key < KEYS; key++) {
                if (holds(key)) {
                    held |= 1L << key;
                }
            }
            return held;
        }

        final long keysReally() {
            long really = 0;
            for (int key = 0; key < KEYS; key++) {
                if (times[key] > 0) {
                    really |= 1L << key;
                }
            }
            return really;
        }
    }

    private static class Plain extends Book {
        Plain(int kind, int size, int lawBits, Law[] ruling) {
            super(kind, size, lawBits, ruling);
        }

        long placeBits(int key) {
            long bits = 0;
            for (int j = 0; j < ruling.length; j++) {
                bits |= 1L << ruling[j].placeFor(key, size);
            }
            return bits;
        }

        boolean holds(int key) {
            return (placeBits(key) & ~filledPlaces()) == 0;
        }

        boolean letsPut() {
            return true;
        }

        boolean insert(int key) {
            long bits = placeBits(key);
            for (int place = 0; place < size; place++) {
                if (has(bits, place)) {
                    numbers[place] = 1;
                }
            }
            return true;
        }
    }

    private static final class Counted extends Plain {
        private static final int MOST_COUNTED = 7;

        Counted(int size, int lawBits, Law[] ruling) {
            super(COUNTED, size, lawBits, ruling);
        }

        boolean insert(int key) {
            long bits = placeBits(key);
            for (int place = 0; place < size; place++) {
                if (has(bits, place) && numbers[place] < MOST_COUNTED) {
                    numbers[place]++;
                }
            }
            return true;
        }

        boolean letsTake() {
            return true;
        }

        void remove(int key) {
            long bits = placeBits(key);
            for (int place = 0; place < size; place++) {
                // A number that has come to its end may stand for more: it can't be counted down.
                if (has(bits, place) && numbers[place] > 0 && numbers[place] < MOST_COUNTED) {
                    numbers[place]--;
                }
            }
        }
    }

    private static class Parted extends Plain {
        Parted(int kind, int size, int lawBits, Law[] ruling) {
            super(kind, size, lawBits, ruling);
        }

        final long placeBits(int key) {
            int part = ruling.length > 0 ? Math.max(1, size / ruling.length) : size;
            long bits = 0;
            for (int j = 0; j < ruling.length; j++) {
                bits |= 1L << rest(j * part + ruling[j].placeFor(key, part), size);
            }
            return bits;
        }
    }

    private static final class Pushed extends Book {
        private static final int MOST_PUSHED_OUT = 8;

        private final int[] before = new int[MOST_SIZE];
        private final int[] trial = new int[MOST_SIZE];
        private final int[] line = new int[MOST_ORDERED];
        private final int[] group = new int[MOST_SIZE];

        Pushed(int size, int lawBits, Law[] ruling) {
            super(PUSHED, size, lawBits, ruling);
        }

        private int firstPlace(int key) {
            return ruling.length > 0 ? ruling[0].placeFor(key, size) : 0;
        }

        private int markOf(int key) {
            return ruling.length > 1 ? ruling[1].markFor(key) : 0;
        }

        private int otherPlace(int place, int mark) {
            return rest(5 * mark - place, size);
        }

        long placeBits(int key) {
            int first = firstPlace(key);
            return 1L << first | 1L << otherPlace(first, markOf(key));
        }

        boolean holds(int key) {
            int first = firstPlace(key);
            int mark = markOf(key);
            return numbers[first] == mark || numbers[otherPlace(first, mark)] == mark;
        }

        boolean letsPut() {
            return true;
        }

        boolean insert(int key) {
            System.arraycopy(numbers, 0, before, 0, size);
            if (pushInto(numbers, key)) {
                return true;
            }
            System.arraycopy(before, 0, numbers, 0, size);
            return false;
        }

        boolean letsTake() {
            return true;
        }

        void remove(int key) {
            int first = firstPlace(key);
            int mark = markOf(key);
            int place = numbers[first] == mark ? first : otherPlace(first, mark);
            if (numbers[place] == mark) {
                numbers[place] = 0;
            }
        }

        /** Puts the key into a row of marks; if it answers false, the row is spoiled. */
        private boolean pushInto(int[] marks, int key) {
            int place = firstPlace(key);
            int mark = markOf(key);
            int other = otherPlace(place, mark);
            if (marks[place] == 0 || marks[other] == 0) {
                marks[marks[place] == 0 ? place : other] = mark;
                return true;
            }
            for (int out = 0; out < MOST_PUSHED_OUT; out++) {
                int homeless = marks[place];
                marks[place] = mark;
                mark = homeless;
                place = otherPlace(place, mark);
                if (marks[place] == 0) {
                    marks[place] = mark;
                    return true;
                }
            }
            return false;
        }

        /** The i-th key of the first order by which all keys of a set find places, or NONE. */
        int orderedKey(long set, int i) {
            int many = 0;
            for (int key = 0; key < KEYS && many < line.length; key++) {
                if (has(set, key)) {
                    line[many] = key;
                    many++;
                }
            }
            if (i < 0 || i >= many) {
                return NONE;
            }
            for (int tried = 0; tried < MOST_ORDERS; tried++) {
                if (allFindPlaces(many)) {
                    return line[i];
                }
                if (!nextLine(many)) {
                    return NONE;
                }
            }
            return NONE;
        }

        private boolean allFindPlaces(int many) {
            for (int place = 0; place < size; place++) {
                trial[place] = 0;
            }
            for (int i = 0; i < many; i++) {
                if (!pushInto(trial, line[i])) {
                    return false;
                }
            }
            return true;
        }

        /** Puts the keys of the line into their next order; false if this was the last one. */
        private boolean nextLine(int many) {
            int turn = many - 2;
            while (turn >= 0 && line[turn] > line[turn + 1]) {
                turn--;
            }
            if (turn < 0) {
                return false;
            }
            int greater = many - 1;
            while (greater > turn && line[greater] < line[turn]) {
                greater--;
            }
            swapInLine(turn, greater);
            int left = turn + 1;
            int right = many - 1;
            while (left < right) {
                swapInLine(left, right);
                left++;
                right--;
            }
            return true;
        }

        private void swapInLine(int one, int other) {
            int kept = line[one];
            line[one] = line[other];
            line[other] = kept;
        }

        /**
         * Places that keys tie together are a group. In a group of n places, n keys or fewer can all
         * lie (a tree of ties leaves one place free, one tie more fills it), and of more just n.
         */
        int mostAtOnce(long set) {
            tieGroups(set);
            int most = 0;
            for (int one = 0; one < size; one++) {
                int room = 0;
                for (int place = 0; place < size; place++) {
                    if (group[place] == one) {
                        room++;
                    }
                }
                int many = 0;
                for (int key = 0; key < KEYS; key++) {
                    if (has(set, key) && group[firstPlace(key)] == one) {
                        many++;
                    }
                }
                most += Math.min(room, many);
            }
            return most;
        }

        private void tieGroups(long set) {
            for (int place = 0; place < size; place++) {
                group[place] = place;
            }
            for (int key = 0; key < KEYS; key++) {
                if (has(set, key)) {
                    int first = firstPlace(key);
                    renameGroup(group[otherPlace(first, markOf(key))], group[first]);
                }
            }
        }

        private void renameGroup(int from, int to) {
            for (int place = 0; place < size; place++) {
                if (group[place] == from) {
                    group[place] = to;
                }
            }
        }
    }

    private static final class Folded extends Parted {
        private final long[] bitsOf = new long[KEYS];
        private final int[] peeledKey = new int[KEYS];
        private final int[] peeledPlace = new int[KEYS];

        Folded(int size, int lawBits, Law[] ruling) {
            super(FOLDED, size, lawBits, ruling);
        }

        private int markOf(int key) {
            return ruling.length > 0 ? ruling[0].markFor(key) : 0;
        }

        private int together(long bits) {
            int all = 0;
            for (int place = 0; place < size; place++) {
                if (has(bits, place)) {
                    all ^= numbers[place];
                }
            }
            return all;
        }

        boolean holds(int key) {
            return together(placeBits(key)) == markOf(key);
        }

        boolean letsPut() {
            return false;
        }

        boolean rebuild(long set, long out) {
            if (!peel(set)) {
                return false;
            }
            for (int place = 0; place < size; place++) {
                numbers[place] = 0;
            }
            for (int i = Long.bitCount(set) - 1; i >= 0; i--) {
                int key = peeledKey[i];
                // Nothing has been written at this place yet, so what is there takes no part.
                numbers[peeledPlace[i]] = together(bitsOf[key]) ^ markOf(key);
            }
            return true;
        }

        /** Notes which key goes with which place, in their order; false if some keys are left over. */
        private boolean peel(long set) {
            for (int key = 0; key < KEYS; key++) {
                bitsOf[key] = placeBits(key);
            }
            long left = set;
            for (int i = 0; i < KEYS && left != 0; i++) {
                long alone = placesOfOneKey(left);
                if (alone == 0) {
                    return false;
                }
                int place = Long.numberOfTrailingZeros(alone);
                int key = keyAt(left, place);
                peeledKey[i] = key;
                peeledPlace[i] = place;
                left &= ~(1L << key);
            }
            return left == 0;
        }

        private long placesOfOneKey(long left) {
            long once = 0;
            long twice = 0;
            for (int key = 0; key < KEYS; key++) {
                if (has(left, key)) {
                    twice |= once & bitsOf[key];
                    once |= bitsOf[key];
                }
            }
            return once & ~twice;
        }

        private int keyAt(long left, int place) {
            int found = 0;
            for (int key = 0; key < KEYS; key++) {
                if (has(left, key) && has(bitsOf[key], place)) {
                    found = key;
                }
            }
            return found;
        }
    }

    private static final class Layered extends Plain {
        private static final int MOST_ROWS = 6;

        private final long[] rows = new long[MOST_ROWS];
        private final long[] fresh = new long[MOST_ROWS];
        private int rowsHeld = 0;

        Layered(int size, int lawBits, Law[] ruling) {
            super(LAYERED, size, lawBits, ruling);
        }

        private int placeInRow(int row, int key) {
            int j = rest(row, ruling.length);
            return j < ruling.length ? ruling[j].placeFor(key, size) : 0;
        }

        boolean holds(int key) {
            int row = 0;
            while (row < rowsHeld && has(rows[row], placeInRow(row, key))) {
                row++;
            }
            return row % 2 == 1;
        }

        boolean letsPut() {
            return false;
        }

        int rowCount() {
            return rowsHeld;
        }

        long rowBits(int row) {
            return row >= 0 && row < rowsHeld ? rows[row] : 0;
        }

        boolean rebuild(long set, long out) {
            // Those of each side that all rows so far have; the two sides take turns.
            long mine = set;
            long others = out;
            int many = 0;
            while (many < MOST_ROWS && mine != 0) {
                fresh[many] = placesInRow(many, mine);
                others = thoseInRow(many, others);
                many++;
                long turned = mine;
                mine = others;
                others = turned;
            }
            if (mine != 0) {
                return false;
            }
            System.arraycopy(fresh, 0, rows, 0, MOST_ROWS);
            rowsHeld = many;
            return true;
        }

        private long placesInRow(int row, long some) {
            long bits = 0;
            for (int key = 0; key < KEYS; key++) {
                if (has(some, key)) {
                    bits |= 1L << placeInRow(row, key);
                }
            }
            return bits;
        }

        private long thoseInRow(int row, long some) {
            long found = 0;
            for (int key = 0; key < KEYS; key++) {
                if (has(some, key) && has(fresh[row], placeInRow(row, key))) {
                    found |= 1L << key;
                }
            }
            return found;
        }
    }

    /** Seeks the set of fewest keys, and of these that of least bits, that fills just the wanted places. */
    private static final class Cover {
        /** A set is held as how many keys it has, above its bits: so the lesser number is the better set. */
        static final long ONE_KEY = 1L << KEYS;
        /** More keys than there are: worse than any set, and no better with a key more. */
        static final long NO_SET = (KEYS + 1) * ONE_KEY;

        /** For each choice of wanted places the best set that fills at least these. */
        private final long[] bestFor = new long[1 << MOST_SOUGHT];

        long leastSet(long[] spots, long wanted) {
            int many = Long.bitCount(wanted);
            if (many > MOST_SOUGHT) {
                return NO_SET;
            }
            int all = (1 << many) - 1;
            bestFor[0] = 0;
            for (int choice = 1; choice <= all; choice++) {
                bestFor[choice] = NO_SET;
            }
            for (int key = 0; key < KEYS && key < spots.length; key++) {
                if ((spots[key] & ~wanted) == 0) {
                    letKeyHelp(key, squeeze(spots[key], wanted), all);
                }
            }
            return bestFor[all];
        }

        /** Goes downwards, so that what is looked up is still without the key. */
        private void letKeyHelp(int key, int own, int all) {
            for (int choice = all; choice > 0; choice--) {
                long with = bestFor[choice & ~own] + ONE_KEY + (1L << key);
                bestFor[choice] = Math.min(bestFor[choice], with);
            }
        }

        /** The bits at wanted places, moved together. */
        private static int squeeze(long bits, long wanted) {
            int squeezed = 0;
            int next = 0;
            for (int place = 0; place < MOST_SIZE; place++) {
                if (has(wanted, place)) {
                    if (has(bits, place)) {
                        squeezed |= 1 << next;
                    }
                    next++;
                }
            }
            return squeezed;
        }
    }
}
