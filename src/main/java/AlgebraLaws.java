import java.util.Arrays;

/** A finite algebra of one table of two places (f) and one of one place (g), and what can be asked of it. */
public final class AlgebraLaws {
    public static final int BAD = -2, STATE = -3, FULL = -4, NONE = -9;

    private static final int IT_HOLDS = -1;
    private static final int FAULT_FROM = -10;
    private static final int FOR_G = -1;
    private static final int MOST_LETTERS = 60;
    private static final int MOST_LETTER = 255;
    private static final int MOST_CLOSED = 16;
    private static final int MOST_SEEN = 6;

    private final Tables now = new Tables();
    private final Tables trial = new Tables();
    private final Reader reader = new Reader();
    private final History history = new History();
    private final Congruences congruences = new Congruences();
    private final Terms terms = new Terms();
    private final int[] text = new int[MOST_LETTERS];
    private int letters;
    private final int[] seen = new int[MOST_SEEN];
    private int seenSoFar;
    private final Tables[] images = {new Tables(), new Tables()};
    private int keptImages;

    public AlgebraLaws() {
        now.startOver(Tables.FIRST_SIZE);
    }

    // ---- tables

    public int type(int letter) {
        if (letter < 0 || letter > MOST_LETTER) {
            return BAD;
        }
        if (letters >= text.length) {
            return FULL;
        }
        text[letters] = letter;
        letters++;
        return letters;
    }

    public int clear() {
        int had = letters;
        letters = 0;
        return had;
    }

    public int tables() {
        int fault = reader.faultOf(text, letters);
        if (fault != Reader.NO_FAULT) {
            return FAULT_FROM - fault;
        }
        now.copyFrom(reader.told);
        letters = 0;
        history.loseAll();
        seenSoFar = 0;
        keptImages = 0;
        return reader.items;
    }

    public int f(int x, int y) {
        return now.has(x) && now.has(y) ? now.two(x, y) : BAD;
    }

    public int g(int x) {
        return now.has(x) ? now.one(x) : BAD;
    }

    // ---- what is done

    public int sets(int x, int y, int c) {
        if (!now.has(x) || !now.has(c) || !(y == FOR_G || now.has(y))) {
            return BAD;
        }
        int place = y == FOR_G ? Tables.placeOfOne(x) : Tables.placeOfTwo(x, y);
        int was = now.at(place);
        if (was == c) {
            return STATE;
        }
        history.note(place, was);
        now.put(place, c);
        return was;
    }

    public int undo() {
        if (history.known == 0) {
            return STATE;
        }
        history.takeBackIn(now);
        return history.known;
    }

    // ---- sets, laws

    public int made(int set) {
        return set < 0 || set > now.allElements() ? BAD : ClosedSets.leastAround(now, set);
    }

    public int closed(int k) {
        return k < 0 ? BAD : ClosedSets.byNumber(now, k);
    }

    public int law(int law) {
        return Laws.isThere(law) ? Laws.firstAgainst(now, law) : BAD;
    }

    public int change(int law) {
        if (!Laws.isThere(law)) {
            return BAD;
        }
        if (Laws.holds(now, law)) {
            return IT_HOLDS;
        }
        trial.copyFrom(now);
        return Laws.leastChange(trial, law);
    }

    // ---- partitions

    public int congruence(int k) {
        if (k < 0) {
            return BAD;
        }
        congruences.seekIn(now);
        return congruences.isThere(k) ? congruences.nameOf(k) : NONE;
    }

    public int principal(int x, int y) {
        if (!now.has(x) || !now.has(y)) {
            return BAD;
        }
        congruences.seekIn(now);
        return congruences.finestWith(x, y);
    }

    public int pair(int a, int b, int what) {
        if (what < 0 || what > 3) {
            return BAD;
        }
        congruences.seekIn(now);
        if (!congruences.isThere(a) || !congruences.isThere(b)) {
            return BAD;
        }
        switch (what) {
            case 0:
                return congruences.join(a, b);
            case 1:
                return congruences.meet(a, b);
            case 2:
                return oneIf(congruences.permute(a, b));
            default:
                return oneIf(congruences.isFiner(a, b));
        }
    }

    // ---- terms

    public int free(int rank, int what) {
        if (rank < 1 || rank > 2 || what < 0 || what > 1) {
            return BAD;
        }
        if (!terms.makeFree(now, rank)) {
            return FULL;
        }
        return what == 0 ? terms.howMany : terms.rounds;
    }

    public int term(int what) {
        if (what < 0 || what > 1 || now.size > Terms.MOST_ELEMENTS_SOUGHT) {
            return BAD;
        }
        boolean ended = what == 0 ? terms.seekMaltsev(now) : terms.seekMajority(now);
        return ended ? oneIf(terms.isFound) : FULL;
    }

    // ---- which value

    public int sees(int n) {
        if (n < 0 || n > MOST_CLOSED) {
            return BAD;
        }
        if (seenSoFar >= seen.length) {
            return FULL;
        }
        seen[seenSoFar] = n;
        seenSoFar++;
        return seenSoFar;
    }

    public int forget() {
        int was = seenSoFar;
        seenSoFar = 0;
        return was;
    }

    public int unseen() {
        int places = 0;
        trial.copyFrom(now);
        for (int x = 0; x < now.size; x++) {
            for (int y = 0; y < now.size; y++) {
                if (someOtherValueFits(Tables.placeOfTwo(x, y))) {
                    places |= 1 << (now.size * x + y);
                }
            }
        }
        return places;
    }

    private boolean someOtherValueFits(int place) {
        int is = now.at(place);
        boolean fits = false;
        for (int c = 0; c < now.size && !fits; c++) {
            trial.put(place, c);
            fits = c != is && allSeenIs(ClosedSets.howMany(trial));
        }
        trial.put(place, is);
        return fits;
    }

    private boolean allSeenIs(int howMany) {
        for (int i = 0; i < seenSoFar && i < seen.length; i++) {
            if (seen[i] != howMany) {
                return false;
            }
        }
        return true;
    }

    // ---- images

    public int keep(int image) {
        if (image < 0 || image >= images.length) {
            return BAD;
        }
        images[image].copyFrom(now);
        keptImages |= 1 << image;
        return now.size;
    }

    public int back(int image) {
        if (image < 0 || image >= images.length) {
            return BAD;
        }
        if ((keptImages >> image & 1) == 0) {
            return STATE;
        }
        now.copyFrom(images[image]);
        history.loseAll();
        return now.size;
    }

    public int count(int what) {
        switch (what) {
            case 0:
                return now.size;
            case 1:
                return ClosedSets.howMany(now);
            case 2:
                congruences.seekIn(now);
                return congruences.found;
            case 3:
                return Laws.thatHold(now);
            case 4:
                return Maps.howMany(now, false);
            case 5:
                return Maps.howMany(now, true);
            case 6:
                return seenSoFar;
            case 7:
                return letters;
            case 8:
                return history.known;
            default:
                return BAD;
        }
    }

    private static int oneIf(boolean so) {
        return so ? 1 : 0;
    }

    /** f and g. Each row of f takes four places whatever SIZE is, so that a masked place is always inside. */
    private static final class Tables {
        static final int FIRST_SIZE = 2;
        static final int MOST_SIZE = 4;
        private static final int PLACES_OF_TWO = MOST_SIZE * MOST_SIZE;
        private static final int PLACES = PLACES_OF_TWO + MOST_SIZE;

        int size;
        private final int[] values = new int[PLACES];

        static int placeOfTwo(int x, int y) {
            return (x & 3) << 2 | (y & 3);
        }

        static int placeOfOne(int x) {
            return PLACES_OF_TWO | (x & 3);
        }

        void startOver(int newSize) {
            size = newSize;
            for (int x = 0; x < MOST_SIZE; x++) {
                for (int y = 0; y < MOST_SIZE; y++) {
                    values[placeOfTwo(x, y)] = x;
                }
                values[placeOfOne(x)] = x;
            }
        }

        boolean has(int x) {
            return x >= 0 && x < size;
        }

        int allElements() {
            return (1 << size) - 1;
        }

        int two(int x, int y) {
            return values[placeOfTwo(x, y)];
        }

        int one(int x) {
            return values[placeOfOne(x)];
        }

        int at(int place) {
            return place >= 0 && place < PLACES ? values[place] : 0;
        }

        void put(int place, int value) {
            if (place >= 0 && place < PLACES) {
                values[place] = value;
            }
        }

        void copyFrom(Tables other) {
            size = other.size;
            System.arraycopy(other.values, 0, values, 0, PLACES);
        }
    }

    /** Reads THE TEXT into tables of its own, which are taken over only if there was no FAULT. */
    private static final class Reader {
        static final int NO_FAULT = -1;
        private static final int NO_ITEM = 0;

        final Tables told = new Tables();
        int items;
        private int item;
        private int figures;

        int faultOf(int[] text, int length) {
            told.startOver(Tables.FIRST_SIZE);
            items = 0;
            item = NO_ITEM;
            for (int place = 0; place < length && place < text.length; place++) {
                if (text[place] != ' ' && !takes(text[place])) {
                    return place;
                }
            }
            return item == NO_ITEM ? NO_FAULT : length;
        }

        private boolean takes(int letter) {
            if (item == NO_ITEM) {
                return opens(letter);
            }
            if (letter == ';') {
                return ends();
            }
            return letter >= '0' && letter <= '9' && takesFigure(letter - '0');
        }

        private boolean opens(int letter) {
            boolean mayStand = letter == 'f' || letter == 'g' || letter == 'n' && items == 0;
            if (mayStand) {
                item = letter;
                figures = 0;
            }
            return mayStand;
        }

        private boolean ends() {
            if (figures < figuresDue()) {
                return false;
            }
            items++;
            item = NO_ITEM;
            return true;
        }

        private int figuresDue() {
            switch (item) {
                case 'f':
                    return told.size * told.size;
                case 'g':
                    return told.size;
                default:
                    return 1;
            }
        }

        private boolean takesFigure(int figure) {
            if (figures >= figuresDue()) {
                return false;
            }
            boolean fits = item == 'n' ? takesSize(figure) : takesValue(figure);
            if (fits) {
                figures++;
            }
            return fits;
        }

        private boolean takesSize(int figure) {
            if (figure < 1 || figure > Tables.MOST_SIZE) {
                return false;
            }
            told.startOver(figure);
            return true;
        }

        private boolean takesValue(int figure) {
            if (!told.has(figure)) {
                return false;
            }
            told.put(item == 'g' ? Tables.placeOfOne(figures) : placeOfFigure(), figure);
            return true;
        }

        private int placeOfFigure() {
            int width = Math.max(1, told.size);
            return Tables.placeOfTwo(figures / width, figures % width);
        }
    }

    /** The latest changes, the oldest of them first. */
    private static final class History {
        private static final int MOST = 12;

        int known;
        private final int[] places = new int[MOST];
        private final int[] values = new int[MOST];

        void loseAll() {
            known = 0;
        }

        void note(int place, int value) {
            if (known >= MOST) {
                loseOldest();
            }
            places[known] = place;
            values[known] = value;
            known++;
        }

        private void loseOldest() {
            System.arraycopy(places, 1, places, 0, MOST - 1);
            System.arraycopy(values, 1, values, 0, MOST - 1);
            known = MOST - 1;
        }

        void takeBackIn(Tables tables) {
            if (known > 0 && known <= MOST) {
                known--;
                tables.put(places[known], values[known]);
            }
        }
    }

    /** Sets of ELEMENTS as bits. */
    private static final class ClosedSets {
        private ClosedSets() {
        }

        static int leastAround(Tables t, int set) {
            int around = set;
            // Each turn but the last adds an ELEMENT, so SIZE turns are enough.
            for (int turn = 0; turn < Tables.MOST_SIZE; turn++) {
                around |= valuesIn(t, around);
            }
            return around;
        }

        static int byNumber(Tables t, int k) {
            int before = 0;
            for (int set = 0; set <= t.allElements(); set++) {
                if (isClosed(t, set)) {
                    if (before == k) {
                        return set;
                    }
                    before++;
                }
            }
            return NONE;
        }

        static int howMany(Tables t) {
            int many = 0;
            for (int set = 0; set <= t.allElements(); set++) {
                if (isClosed(t, set)) {
                    many++;
                }
            }
            return many;
        }

        private static boolean isClosed(Tables t, int set) {
            return (valuesIn(t, set) & ~set) == 0;
        }

        private static int valuesIn(Tables t, int set) {
            int values = 0;
            for (int x = 0; x < t.size; x++) {
                if ((set >> x & 1) != 0) {
                    values |= 1 << t.one(x);
                    for (int y = 0; y < t.size; y++) {
                        if ((set >> y & 1) != 0) {
                            values |= 1 << t.two(x, y);
                        }
                    }
                }
            }
            return values;
        }
    }

    private static final class Laws {
        private static final int HOW_MANY = 7;

        private Laws() {
        }

        static boolean isThere(int law) {
            return law >= 0 && law < HOW_MANY;
        }

        static boolean holds(Tables t, int law) {
            return firstAgainst(t, law) == NONE;
        }

        static int firstAgainst(Tables t, int law) {
            // A letter that the LAW does not name stays 0.
            int ys = law == 0 || law == 3 ? 1 : t.size;
            int zs = law == 2 ? t.size : 1;
            for (int x = 0; x < t.size; x++) {
                for (int y = 0; y < ys; y++) {
                    for (int z = 0; z < zs; z++) {
                        if (!isSo(t, law, x, y, z)) {
                            return 100 * x + 10 * y + z;
                        }
                    }
                }
            }
            return NONE;
        }

        private static boolean isSo(Tables t, int law, int x, int y, int z) {
            switch (law) {
                case 0:
                    return t.two(x, x) == x;
                case 1:
                    return t.two(x, y) == t.two(y, x);
                case 2:
                    return t.two(t.two(x, y), z) == t.two(x, t.two(y, z));
                case 3:
                    return t.one(t.one(x)) == x;
                case 4:
                    return t.one(t.two(x, y)) == t.two(t.one(y), t.one(x));
                case 5:
                    return t.two(x, t.two(x, y)) == t.two(x, y);
                default:
                    return t.two(x, t.one(x)) == t.two(y, t.one(y));
            }
        }

        static int thatHold(Tables t) {
            int bits = 0;
            for (int law = 0; law < HOW_MANY; law++) {
                if (holds(t, law)) {
                    bits |= 1 << law;
                }
            }
            return bits;
        }

        /** For a LAW that does not HOLD; the tables are tried on, and are as they were then. */
        static int leastChange(Tables t, int law) {
            for (int x = 0; x < t.size; x++) {
                for (int y = 0; y < t.size; y++) {
                    int c = leastValue(t, law, Tables.placeOfTwo(x, y));
                    if (c != NONE) {
                        return 100 * x + 10 * y + c;
                    }
                }
            }
            return NONE;
        }

        private static int leastValue(Tables t, int law, int place) {
            int was = t.at(place);
            int least = NONE;
            for (int c = 0; c < t.size && least == NONE; c++) {
                t.put(place, c);
                if (firstAgainst(t, law) == NONE) {
                    least = c;
                }
            }
            t.put(place, was);
            return least;
        }
    }

    /**
     * The CONGRUENCES of some tables by their numbers. Where one PARTITION is finer than another, no ELEMENT's figure
     * is less than in the other, so its NAME comes later: of some that have a finest one, that is the last.
     */
    private static final class Congruences {
        /** The PARTITIONS of four, a hexadecimal figure for each ELEMENT as in the NAME, and in the NAMES' order. */
        private static final int[] PARTITIONS = {
            0x0000, 0x0003, 0x0020, 0x0022, 0x0023, 0x0100, 0x0101, 0x0103,
            0x0110, 0x0111, 0x0113, 0x0120, 0x0121, 0x0122, 0x0123};

        int found;
        private int size;
        private final int[] partitions = new int[PARTITIONS.length];

        void seekIn(Tables t) {
            size = t.size;
            found = 0;
            for (int i = 0; i < PARTITIONS.length; i++) {
                if (isOfFirst(size, PARTITIONS[i]) && goesAlong(t, PARTITIONS[i])) {
                    partitions[found] = PARTITIONS[i];
                    found++;
                }
            }
        }

        boolean isThere(int k) {
            return k >= 0 && k < found && k < partitions.length;
        }

        private int partition(int k) {
            return isThere(k) ? partitions[k] : 0;
        }

        int nameOf(int k) {
            int name = 0;
            for (int x = 0; x < size; x++) {
                name = 10 * name + least(partition(k), x);
            }
            return name;
        }

        int finestWith(int x, int y) {
            for (int k = found - 1; k > 0; k--) {
                if (together(partition(k), x, y)) {
                    return k;
                }
            }
            return 0;
        }

        int join(int a, int b) {
            for (int k = found - 1; k > 0; k--) {
                if (isFiner(a, k) && isFiner(b, k)) {
                    return k;
                }
            }
            return 0;
        }

        int meet(int a, int b) {
            for (int k = 0; k < found; k++) {
                if (isFiner(k, a) && isFiner(k, b)) {
                    return k;
                }
            }
            return found - 1;
        }

        boolean isFiner(int a, int b) {
            for (int x = 0; x < size; x++) {
                if (!together(partition(b), x, least(partition(a), x))) {
                    return false;
                }
            }
            return true;
        }

        boolean permute(int a, int b) {
            for (int x = 0; x < size; x++) {
                for (int y = 0; y < size; y++) {
                    if (isLinked(a, b, x, y) && !isLinked(b, a, x, y)) {
                        return false;
                    }
                }
            }
            return true;
        }

        private boolean isLinked(int a, int b, int x, int y) {
            for (int z = 0; z < size; z++) {
                if (together(partition(a), x, z) && together(partition(b), z, y)) {
                    return true;
                }
            }
            return false;
        }

        private static int least(int partition, int x) {
            return partition >> (12 - 4 * x) & 3;
        }

        private static boolean together(int partition, int x, int y) {
            return least(partition, x) == least(partition, y);
        }

        /** Whether only the first ELEMENTS, as many as size, have company. */
        private static boolean isOfFirst(int size, int partition) {
            for (int x = size; x < Tables.MOST_SIZE; x++) {
                if (least(partition, x) != x) {
                    return false;
                }
            }
            return true;
        }

        private static boolean goesAlong(Tables t, int partition) {
            for (int x = 0; x < t.size; x++) {
                int y = least(partition, x);
                if (!together(partition, t.one(x), t.one(y))) {
                    return false;
                }
                for (int z = 0; z < t.size; z++) {
                    if (!together(partition, t.two(x, z), t.two(y, z))
                            || !together(partition, t.two(z, x), t.two(z, y))) {
                        return false;
                    }
                }
            }
            return true;
        }
    }

    /** A map is held as two bits for each ELEMENT. */
    private static final class Maps {
        private Maps() {
        }

        static int howMany(Tables t, boolean onto) {
            int many = 0;
            for (int map = 0; map < 1 << 2 * t.size; map++) {
                if (isInside(t, map) && (!onto || isOnto(t, map)) && goesAlong(t, map)) {
                    many++;
                }
            }
            return many;
        }

        private static int of(int map, int x) {
            return map >> 2 * x & 3;
        }

        private static boolean isInside(Tables t, int map) {
            for (int x = 0; x < t.size; x++) {
                if (!t.has(of(map, x))) {
                    return false;
                }
            }
            return true;
        }

        private static boolean isOnto(Tables t, int map) {
            int met = 0;
            for (int x = 0; x < t.size; x++) {
                met |= 1 << of(map, x);
            }
            return met == t.allElements();
        }

        private static boolean goesAlong(Tables t, int map) {
            for (int x = 0; x < t.size; x++) {
                if (of(map, t.one(x)) != t.one(of(map, x))) {
                    return false;
                }
                for (int y = 0; y < t.size; y++) {
                    if (of(map, t.two(x, y)) != t.two(of(map, x), of(map, y))) {
                        return false;
                    }
                }
            }
            return true;
        }
    }

    /**
     * Terms as rows of values, a row a long: bit i and bit 32 + i are the low and the high bit of its i-th value (27
     * values at most), so that f and g of whole rows are a few masks.
     */
    private static final class Terms {
        static final int MOST_ELEMENTS_SOUGHT = 3;
        private static final int MOST = 200;
        private static final int HALF = 32;
        private static final int SLOT_BITS = 9;
        private static final int SLOTS = 1 << SLOT_BITS;
        private static final long SPREAD = 0x9E3779B97F4A7C15L;
        /** No row is as wide as this. */
        private static final long NO_GOAL = -1L;

        int howMany;
        int rounds;
        boolean isFound;
        private final long[] rows = new long[MOST];
        /** Where a row is found again: its number and 1; 0 where none is. */
        private final int[] slots = new int[SLOTS];
        private long firstLetter;
        private long secondLetter;
        private long thirdLetter;
        private long goal;
        private int width;
        /** For one left row and each ELEMENT y: where f of both has its low bit, and its high bit. */
        private final int[] lowBehind = new int[Tables.MOST_SIZE];
        private final int[] highBehind = new int[Tables.MOST_SIZE];

        /** False: there are more than there may be. */
        boolean makeFree(Tables t, int rank) {
            startOver();
            for (int x = 0; x < t.size; x++) {
                for (int y = 0; y < t.size; y++) {
                    addWay(x, y, 0, 0);
                }
            }
            goal = NO_GOAL;
            return grow(t, rank);
        }

        /** False: a ROUND would make more than there may be. */
        boolean seekMaltsev(Tables t) {
            startOver();
            for (int x = 0; x < t.size; x++) {
                for (int y = 0; y < t.size; y++) {
                    addWay(x, y, y, x);
                    addWay(x, x, y, y);
                }
            }
            return grow(t, 3);
        }

        /** False: a ROUND would make more than there may be. */
        boolean seekMajority(Tables t) {
            startOver();
            for (int x = 0; x < t.size; x++) {
                for (int y = 0; y < t.size; y++) {
                    addWay(x, x, y, x);
                    addWay(x, y, x, x);
                    addWay(y, x, x, x);
                }
            }
            return grow(t, 3);
        }

        private void startOver() {
            howMany = 0;
            rounds = 0;
            Arrays.fill(slots, 0);
            firstLetter = 0;
            secondLetter = 0;
            thirdLetter = 0;
            goal = 0;
            width = 0;
        }

        /** One value more for the rows: what the three letters are there, and what the goal is. */
        private void addWay(int first, int second, int third, int due) {
            firstLetter |= valueHere(first);
            secondLetter |= valueHere(second);
            thirdLetter |= valueHere(third);
            goal |= valueHere(due);
            width++;
        }

        private long valueHere(int value) {
            return joined((value & 1) << width, (value >> 1 & 1) << width);
        }

        /** Makes ROUNDS from some of the letters till the goal is there, or one adds none. False: too many rows. */
        private boolean grow(Tables t, int letters) {
            add(firstLetter);
            if (letters > 1) {
                add(secondLetter);
            }
            if (letters > 2) {
                add(thirdLetter);
            }
            int before = 0;
            // Each ROUND but the last adds a row, so there are fewer than there may be rows.
            for (int round = 0; round <= MOST; round++) {
                int known = howMany;
                isFound = slots[slotOf(goal)] != 0;
                if (isFound || known == before) {
                    return true;
                }
                if (!makeRound(t, before)) {
                    return false;
                }
                rounds += howMany > known ? 1 : 0;
                before = known;
            }
            return true;
        }

        /** Puts the rows together, but for those with one another that stood before the last ROUND. */
        private boolean makeRound(Tables t, int before) {
            int known = Math.min(howMany, MOST);
            for (int a = 0; a < known; a++) {
                layBehind(t, rows[a]);
                if (a >= before && !add(ofOne(t, rows[a]))) {
                    return false;
                }
                for (int b = a < before ? before : 0; b < known; b++) {
                    if (!add(ofTwo(rows[b]))) {
                        return false;
                    }
                }
            }
            return true;
        }

        private void layBehind(Tables t, long left) {
            for (int y = 0; y < Tables.MOST_SIZE; y++) {
                int low = 0;
                int high = 0;
                for (int x = 0; x < t.size; x++) {
                    int where = whereIs(left, x);
                    low |= (t.two(x, y) & 1) != 0 ? where : 0;
                    high |= (t.two(x, y) & 2) != 0 ? where : 0;
                }
                lowBehind[y] = low;
                highBehind[y] = high;
            }
        }

        /** f of the row that lies behind, and this one. Written out, as it is what takes the time. */
        private long ofTwo(long right) {
            int low = (int) right;
            int high = (int) (right >>> HALF);
            int is0 = ~low & ~high;
            int is1 = low & ~high;
            int is2 = ~low & high;
            int is3 = low & high;
            return joined(
                is0 & lowBehind[0] | is1 & lowBehind[1] | is2 & lowBehind[2] | is3 & lowBehind[3],
                is0 & highBehind[0] | is1 & highBehind[1] | is2 & highBehind[2] | is3 & highBehind[3]);
        }

        private long ofOne(Tables t, long row) {
            int low = 0;
            int high = 0;
            for (int x = 0; x < t.size; x++) {
                int where = whereIs(row, x);
                low |= (t.one(x) & 1) != 0 ? where : 0;
                high |= (t.one(x) & 2) != 0 ? where : 0;
            }
            return joined(low, high);
        }

        /** Which of the row's values are x. */
        private int whereIs(long row, int x) {
            int low = (int) row;
            int high = (int) (row >>> HALF);
            return ((x & 1) != 0 ? low : ~low) & ((x & 2) != 0 ? high : ~high) & (1 << width) - 1;
        }

        private static long joined(int low, int high) {
            return (long) high << HALF | low;
        }

        /** False: it is new, and there is no room for it. */
        private boolean add(long row) {
            int slot = slotOf(row);
            if (slots[slot] != 0) {
                return true;
            }
            if (howMany >= MOST) {
                return false;
            }
            rows[howMany] = row;
            howMany++;
            slots[slot] = howMany;
            return true;
        }

        /** The slot that has the row, or the one where it would stand. There are far more slots than rows. */
        private int slotOf(long row) {
            int start = (int) (row * SPREAD >>> 64 - SLOT_BITS);
            for (int step = 0; step < SLOTS; step++) {
                int slot = start + step & SLOTS - 1;
                int number = slots[slot] - 1;
                if (number < 0 || number >= MOST || rows[number] == row) {
                    return slot;
                }
            }
            return 0;
        }
    }
}
