/**
 * Coats on the bed: guests come, their coats are laid on heaps by a rule of letters, and the
 * guests go, each digging for the own coat. The document (DOC.md) tells what each call answers.
 */
public final class CoatsOnTheBed {
    private static final int NO_SUCH = -1;
    private static final int NO_ROOM = -2;
    private static final int NOT_AS_IT_MUST_BE = -3;
    private static final int NONE = -4;
    private static final int NOTHING_HELD = -11;
    private static final int OF_ANOTHER_KIND = -12;
    private static final int NO_PLACE = -13;
    private static final int SIZE_BELOW_ZERO = -14;
    private static final int NO_FAILURE = -15;
    private static final int FIRST_FAULT_OF_FORM = -1000;
    private static final int FIRST_FAULT_OF_SENSE = -2000;
    private static final long LONG_REFUSALS = -1000000000L;
    private static final int FINE = 0;

    private static final int MOST_GUESTS = 10;
    private static final int MOST_HEAPS = 3;
    private static final int MOST_HOOKS = 3;
    private static final int MOST_LETTERS = 6;
    private static final int MOST_SHELVES = 8;
    private static final int MOST_ELEMENTS = 100;
    private static final int MOST_NIGHTS = 20;
    private static final int LAST_FIGURE = 9;
    private static final int LAST_MINUTE = 99;
    private static final int MOST_LIFTS_ASKED = 999;
    private static final int GUESTS_FOR_ALL_LAYINGS = 6;
    private static final int GUESTS_FOR_ALL_COMINGS = 6;
    private static final int GUESTS_FOR_ALL_GOINGS = 5;

    private static final int HEAPS = 0;
    private static final int HOLDS = 1;
    private static final int BACK = 2;
    private static final int MISTAKES = 3;
    private static final int SETTINGS = 4;

    /** Where a coat may be beside the heaps 0 .. 2. */
    private static final int ON_HOOK = 9;
    private static final int ON_FLOOR = -4;
    private static final int AWAY = -1;

    private static final char[] LETTERS = {'f', 's', 'e', 'l', 'o', 'r'};

    private final Room told;
    private final Room pictured;
    private boolean hasPicture;
    private final Shelf[] shelves;
    private final Night night;
    private final Trials trials;

    public CoatsOnTheBed() {
        told = new Room();
        pictured = new Room();
        hasPicture = false;
        shelves = new Shelf[MOST_SHELVES];
        for (int d = 0; d < MOST_SHELVES; d++) {
            shelves[d] = new Shelf();
        }
        night = new Night();
        trials = new Trials();
    }

    // ---- the room as told

    public int room(int d) {
        int refusal = refusalOfBytes(d);
        if (refusal != FINE) {
            return refusal;
        }
        Shelf text = shelves[d];
        int broken = RoomText.brokenAt(text);
        if (broken >= 0) {
            return FIRST_FAULT_OF_FORM - broken;
        }
        Room draft = trials.trial;
        draft.copyFrom(told);
        int senseless = RoomText.senselessAt(text, draft);
        if (senseless >= 0) {
            return FIRST_FAULT_OF_SENSE - senseless;
        }
        told.copyFrom(draft);
        return RoomText.statementsIn(text);
    }

    public int guest(int g, int what) {
        if (!told.hasGuest(g)) {
            return NO_SUCH;
        }
        switch (what) {
            case 0:
                return told.kinds[g];
            case 1:
                return told.figures[g];
            case 2:
                return told.minutes[g];
            case 3:
                return told.goingMinute(g);
            case 4:
                return told.weightOf(g);
            case 5:
                return Kinds.isBlack(told.kinds[g]) ? 1 : 0;
            case 6:
                return told.spareOf(g);
            case 7:
                return told.hasHook(g) ? 1 : 0;
            case 8:
                return laid().spots[g];
            default:
                return NO_SUCH;
        }
    }

    public int comes(int d, int minute) {
        if (!isShelf(d) || !isMinute(minute)) {
            return NO_SUCH;
        }
        int refusal = refusalOf(d, Shelf.COAT);
        if (refusal != FINE) {
            return refusal;
        }
        return told.welcome(shelves[d].kind, shelves[d].figure, minute);
    }

    public int leaves(int g) {
        if (!told.hasGuest(g)) {
            return NO_SUCH;
        }
        told.dismiss(g);
        return told.guests;
    }

    public int goes(int g, int v) {
        if (!told.hasGuest(g) || !isMinute(v)) {
            return NO_SUCH;
        }
        int before = told.minutes[g];
        told.minutes[g] = v;
        return before;
    }

    public int hook(int g) {
        return told.hasGuest(g) ? told.toggleHook(g) : NO_SUCH;
    }

    public int set(int what, int v) {
        if (!Room.allows(what, v)) {
            return NO_SUCH;
        }
        int before = told.settings[what];
        told.settings[what] = v;
        return before;
    }

    public int rule(int d) {
        int refusal = refusalOfBytes(d);
        if (refusal != FINE) {
            return refusal;
        }
        Shelf letters = shelves[d];
        if (letters.size > MOST_LETTERS) {
            return NO_PLACE;
        }
        for (int i = 0; i < letters.size; i++) {
            if (!RoomText.isLetterOfRule(letters.elements[i])) {
                return NO_PLACE;
            }
        }
        told.takeLetters(letters, 0, letters.size);
        return told.letterCount;
    }

    // ---- laid, and gone

    public int heap(int h, int i) {
        if (!isHeap(h) || i < -1) {
            return NO_SUCH;
        }
        Bed bed = laid();
        return i == -1 ? bed.heights[h] : bed.coatAt(h, i);
    }

    public int above(int g) {
        return told.hasGuest(g) ? laid().coatsAbove(g) : NO_SUCH;
    }

    public int fate(int g, int what) {
        if (!told.hasGuest(g)) {
            return NO_SUCH;
        }
        night.pass(told);
        switch (what) {
            case 0:
                return night.lifts[g];
            case 1:
                return night.begins[g];
            case 2:
                return night.ends[g];
            case 3:
                return night.has[g];
            case 4:
                return night.placeOf(g);
            case 5:
                return night.lifted[g];
            default:
                return NO_SUCH;
        }
    }

    public int sums(int what) {
        night.pass(told);
        switch (what) {
            case 0:
                return night.allLifts;
            case 1:
                return night.allWaiting();
            case 2:
                return night.howManyHaveAnothers();
            case 3:
                return night.howManyHaveNone();
            case 4:
                return night.lastEnd();
            case 5:
                return Integer.bitCount(night.missers());
            default:
                return NO_SUCH;
        }
    }

    public int missing() {
        night.pass(told);
        return night.missers();
    }

    public int then(int gone, int h, int i) {
        if (gone < 0 || gone > told.guests || !isHeap(h) || i < 0) {
            return NO_SUCH;
        }
        night.begin(told);
        night.laying.layAll(told);
        night.letGo(gone, NONE);
        return night.bed.coatAt(h, i);
    }

    public int order(int i) {
        if (i < 0) {
            return NO_SUCH;
        }
        night.begin(told);
        return i < told.guests ? night.order[i] : NONE;
    }

    // ---- what were best

    public int fewest() {
        return trials.fewestHeaps(told);
    }

    public int shown(int i) {
        return i < 0 ? NO_SUCH : trials.shownGuest(told, i);
    }

    public int least(int what) {
        if (!isFirstOrSecond(what)) {
            return NO_SUCH;
        }
        if (told.guests > GUESTS_FOR_ALL_LAYINGS) {
            return NOT_AS_IT_MUST_BE;
        }
        trials.tryAllLayings(told);
        return what == 0 ? trials.foundLifts : trials.found;
    }

    public int backs(int back) {
        return Room.allows(BACK, back) ? trials.liftsWith(told, BACK, back) : NO_SUCH;
    }

    public int bestBack() {
        int best = 0;
        int bestLifts = trials.liftsWith(told, BACK, 0);
        for (int back = 1; back <= 2; back++) {
            int lifts = trials.liftsWith(told, BACK, back);
            if (lifts < bestLifts) {
                best = back;
                bestLifts = lifts;
            }
        }
        return best;
    }

    public int whom(int k, int what) {
        if (!areHooks(k) || !isFirstOrSecond(what)) {
            return NO_SUCH;
        }
        trials.tryHooks(told, k);
        return what == 0 ? trials.found : trials.foundLifts;
    }

    public int worth(int k) {
        if (!areHooks(k)) {
            return NO_SUCH;
        }
        trials.tryHooks(told, 0);
        int without = trials.foundLifts;
        trials.tryHooks(told, k);
        return Math.max(0, without - trials.foundLifts);
    }

    public int enough(int v) {
        if (v < 0 || v > MOST_LIFTS_ASKED) {
            return NO_SUCH;
        }
        for (int heaps = 1; heaps <= MOST_HEAPS; heaps++) {
            if (trials.liftsWith(told, HEAPS, heaps) <= v) {
                return heaps;
            }
        }
        return NONE;
    }

    public int along(int g, int what) {
        if (!told.hasGuest(g) || !isFirstOrSecond(what)) {
            return NO_SUCH;
        }
        trials.tryGoingAlong(told, g);
        return what == 0 ? trials.found : trials.foundLifts;
    }

    public int turn(int m) {
        return isMinute(m) ? trials.liftsWithTurn(told, m) : NO_SUCH;
    }

    public int bestTurn() {
        return trials.bestMinuteToTurn(told);
    }

    public long mean(int part) {
        if (!isFirstOrSecond(part)) {
            return LONG_REFUSALS + NO_SUCH;
        }
        if (told.guests > GUESTS_FOR_ALL_GOINGS) {
            return LONG_REFUSALS + NOT_AS_IT_MUST_BE;
        }
        trials.tryAllGoings(told);
        int orders = Orders.howMany(told.guests);
        int divisor = Orders.greatestDivisor(trials.sumOfLifts, orders);
        if (divisor < 1) {
            return 0;
        }
        return part == 0 ? trials.sumOfLifts / divisor : orders / divisor;
    }

    public int orders(int what) {
        if (!isFirstOrSecond(what)) {
            return NO_SUCH;
        }
        if (told.guests > GUESTS_FOR_ALL_GOINGS) {
            return NOT_AS_IT_MUST_BE;
        }
        trials.tryAllGoings(told);
        return what == 0 ? trials.mostLifts : trials.foundLifts;
    }

    public int rival(int k) {
        return k >= 0 && k < LETTERS.length ? trials.liftsWithLetter(told, k) : NO_SUCH;
    }

    public int bestRule() {
        int best = 0;
        int bestLifts = trials.liftsWithLetter(told, 0);
        for (int k = 1; k < LETTERS.length; k++) {
            int lifts = trials.liftsWithLetter(told, k);
            if (lifts < bestLifts) {
                best = k;
                bestLifts = lifts;
            }
        }
        return best;
    }

    public int whose(int g) {
        return told.hasGuest(g) ? trials.inTheWayOf(told, g) : NO_SUCH;
    }

    public int two(int a, int b) {
        if (!told.hasGuest(a) || !told.hasGuest(b) || a == b) {
            return NO_SUCH;
        }
        return trials.restOfTwo(told, a, b);
    }

    public int chain(int g) {
        if (!told.hasGuest(g)) {
            return NO_SUCH;
        }
        night.pass(told);
        return night.stepsRound(g);
    }

    // ---- read back, nights

    public int judge(int d) {
        int refusal = refusalOf(d, Shelf.ROW);
        if (refusal != FINE) {
            return refusal;
        }
        Bed bed = laid();
        Shelf goers = shelves[d];
        for (int i = 0; i < goers.size; i++) {
            int g = goers.elements[i];
            if (!told.hasGuest(g) || !bed.giveIfFree(g)) {
                return i;
            }
        }
        return NONE;
    }

    public int reads(int d, int what) {
        if (!isShelf(d) || !isFirstOrSecond(what)) {
            return NO_SUCH;
        }
        int refusal = refusalOf(d, Shelf.ROW);
        if (refusal != FINE) {
            return refusal;
        }
        if (told.guests > GUESTS_FOR_ALL_COMINGS) {
            return NOT_AS_IT_MUST_BE;
        }
        int fitting = trials.tryAllComings(told, shelves[d]);
        return what == 0 ? fitting : trials.found;
    }

    public int nights(int n, int z, int what) {
        if (n < 1 || n > MOST_NIGHTS || !isFirstOrSecond(what)) {
            return NO_SUCH;
        }
        trials.tryNights(told, n, z);
        return what == 0 ? trials.sumOfLifts : trials.sumOfMissers;
    }

    // ---- the image, what is told

    public int image() {
        pictured.copyFrom(told);
        hasPicture = true;
        return told.guests;
    }

    public int restore() {
        if (!hasPicture) {
            return NOT_AS_IT_MUST_BE;
        }
        told.copyFrom(pictured);
        return told.guests;
    }

    public int count(int what) {
        switch (what) {
            case 0:
                return told.guests;
            case 1:
                return told.settings[HEAPS];
            case 2:
                return told.settings[HOLDS];
            case 3:
                return told.settings[BACK];
            case 4:
                return told.settings[MISTAKES];
            case 5:
                return told.hooks;
            case 6:
                return told.letterCount;
            case 7:
                return told.allWeights();
            default:
                return NO_SUCH;
        }
    }

    // ---- shelves

    public int keep(int d, int what, int k, int figure) {
        if (!isShelf(d) || !isFirstOrSecond(what)) {
            return NO_SUCH;
        }
        if (what == 0) {
            shelves[d].becomeEmpty();
            return 0;
        }
        if (!Kinds.isKind(k) || figure < 0 || figure > LAST_FIGURE) {
            return NO_SUCH;
        }
        shelves[d].becomeCoat(k, figure);
        return 0;
    }

    public int row(int d, int sort, int n) {
        if (!isShelf(d) || sort < 0 || sort > Shelf.INTS || n > MOST_ELEMENTS) {
            return NO_SUCH;
        }
        if (n < 0) {
            return SIZE_BELOW_ZERO;
        }
        shelves[d].becomeRow(sort, n);
        return 0;
    }

    public int put(int d, int i, int v) {
        int refusal = refusalOf(d, Shelf.ROW);
        if (refusal != FINE) {
            return refusal;
        }
        if (!shelves[d].hasPlace(i)) {
            return NO_PLACE;
        }
        shelves[d].elements[i] = shelves[d].cutToSort(v);
        return 0;
    }

    public long element(int d, int i) throws IllegalArgumentException, IllegalStateException {
        if (!isShelf(d)) {
            throw new IllegalArgumentException("no such shelf");
        }
        if (refusalOf(d, Shelf.ROW) != FINE || !shelves[d].hasPlace(i)) {
            throw new IllegalStateException("no row, or no such place");
        }
        return shelves[d].elements[i];
    }

    public int copy(int d, int i, int e, int j, int n) {
        if (!isShelf(d) || !isShelf(e)) {
            return NO_SUCH;
        }
        Shelf from = shelves[d];
        Shelf to = shelves[e];
        if (from.holds == Shelf.NOTHING || to.holds == Shelf.NOTHING) {
            return NOTHING_HELD;
        }
        if (from.holds != Shelf.ROW || to.holds != Shelf.ROW || from.sort != to.sort) {
            return OF_ANOTHER_KIND;
        }
        if (!from.hasStretch(i, n) || !to.hasStretch(j, n)) {
            return NO_PLACE;
        }
        System.arraycopy(from.elements, i, to.elements, j, n);
        return n;
    }

    public int cost(int d) {
        int refusal = refusalOf(d, Shelf.COAT);
        return refusal != FINE ? refusal : Kinds.price(shelves[d].kind, shelves[d].figure);
    }

    public int toss(int d) {
        int refusal = refusalOf(d, Shelf.COAT);
        if (refusal != FINE) {
            return refusal;
        }
        int kind = shelves[d].kind;
        int figure = shelves[d].figure;
        try {
            Kinds.fail(kind, figure);
        } catch (UnsupportedOperationException scarf) {
            return 200 + Kinds.price(kind, figure);
        } catch (IllegalArgumentException black) {
            return 100 + figure;
        } catch (IllegalStateException other) {
            return figure;
        }
        return NO_FAILURE;
    }

    // ---- what several calls ask

    private static boolean isShelf(int d) {
        return d >= 0 && d < MOST_SHELVES;
    }

    private static boolean isHeap(int h) {
        return h >= 0 && h < MOST_HEAPS;
    }

    private static boolean isMinute(int m) {
        return m >= 0 && m <= LAST_MINUTE;
    }

    private static boolean isFirstOrSecond(int what) {
        return what == 0 || what == 1;
    }

    private boolean areHooks(int k) {
        return k >= 0 && k <= MOST_HOOKS && k <= told.guests;
    }

    private int refusalOf(int d, int wanted) {
        if (!isShelf(d)) {
            return NO_SUCH;
        }
        if (shelves[d].holds == Shelf.NOTHING) {
            return NOTHING_HELD;
        }
        return shelves[d].holds == wanted ? FINE : OF_ANOTHER_KIND;
    }

    private int refusalOfBytes(int d) {
        int refusal = refusalOf(d, Shelf.ROW);
        if (refusal != FINE) {
            return refusal;
        }
        return shelves[d].sort == Shelf.BYTES ? FINE : OF_ANOTHER_KIND;
    }

    private Bed laid() {
        night.begin(told);
        night.laying.layAll(told);
        return night.bed;
    }

    /** What each kind makes of what it is under; figures alone, so that no coat is an object. */
    private static final class Kinds {
        static final int COAT = 0;
        static final int FUR = 1;
        static final int TWEED = 2;
        static final int BLACK = 3;
        static final int SCARF = 4;
        static final int CHILD = 5;
        static final int TRAIN = 6;
        static final int SLEEPER = 7;

        static final int COAT_WEIGHT = 1;
        static final int COAT_PRICE = 4;
        static final int COAT_SPARE = 99;

        static boolean isKind(int k) {
            return k >= COAT && k <= SLEEPER;
        }

        static int minute(int kind, int figure, int minute) {
            switch (kind) {
                case CHILD:
                    return Math.max(0, minute - figure);
                case SLEEPER:
                    return LAST_MINUTE;
                default:
                    return minute;
            }
        }

        static int weight(int kind, int figure) {
            int tweed = COAT_WEIGHT + figure / 3;
            switch (kind) {
                case FUR:
                    return COAT_WEIGHT + 2;
                case TWEED:
                    return tweed;
                case SCARF:
                    return tweed + 1;
                case CHILD:
                    return COAT_WEIGHT / 2;
                default:
                    return COAT_WEIGHT;
            }
        }

        static boolean isBlack(int kind) {
            return kind == BLACK || kind == TRAIN;
        }

        static int spare(int kind, int figure) {
            return kind == TRAIN ? figure : COAT_SPARE;
        }

        static int price(int kind, int figure) {
            int tweed = COAT_PRICE + figure;
            int black = COAT_PRICE + 3;
            switch (kind) {
                case FUR:
                    return COAT_PRICE + 20;
                case TWEED:
                    return tweed;
                case BLACK:
                    return black;
                case SCARF:
                    return 2 * tweed;
                case CHILD:
                    return COAT_PRICE / 2;
                case TRAIN:
                    return black + figure;
                case SLEEPER:
                    return COAT_PRICE - 1;
                default:
                    return COAT_PRICE;
            }
        }

        /** Throws the failure of a coat; comes back if it has none. */
        static void fail(int kind, int figure) {
            if (kind == SLEEPER || figure == 0) {
                return;
            }
            if (kind == SCARF) {
                throw new UnsupportedOperationException("a scarf is no coat");
            }
            if (isBlack(kind)) {
                throw new IllegalArgumentException("one black coat is like another");
            }
            throw new IllegalStateException("a coat fails");
        }
    }

    /** What a shelf holds: nothing, a coat of a kind, or a row of numbers. */
    private static final class Shelf {
        static final int NOTHING = 0;
        static final int COAT = 1;
        static final int ROW = 2;

        static final int BYTES = 0;
        static final int SHORTS = 1;
        static final int INTS = 2;

        int holds;
        int kind;
        int figure;
        int sort;
        int size;
        final int[] elements = new int[MOST_ELEMENTS];

        void becomeEmpty() {
            holds = NOTHING;
            size = 0;
        }

        void becomeCoat(int newKind, int newFigure) {
            holds = COAT;
            size = 0;
            kind = newKind;
            figure = newFigure;
        }

        void becomeRow(int newSort, int newSize) {
            holds = ROW;
            sort = newSort;
            size = newSize;
            for (int i = 0; i < MOST_ELEMENTS; i++) {
                elements[i] = 0;
            }
        }

        boolean hasPlace(int i) {
            return i >= 0 && i < size;
        }

        boolean hasStretch(int i, int n) {
            return i >= 0 && n >= 0 && n <= size && i <= size - n;
        }

        int cutToSort(int v) {
            if (sort == BYTES) {
                return (byte) v;
            }
            return sort == SHORTS ? (short) v : v;
        }

        /** The number at a place of a text; behind its end one that no text has. */
        int signAt(int i) {
            return hasPlace(i) ? elements[i] : -1;
        }
    }

    /** All that is told: the guests, the settings, the hooks, the rule. */
    private static final class Room {
        static final int[] LEAST = {1, 1, 0, 0};
        static final int[] MOST = {3, 9, 2, 1};

        int guests = 0;
        final int[] kinds = new int[MOST_GUESTS];
        final int[] figures = new int[MOST_GUESTS];
        final int[] minutes = new int[MOST_GUESTS];
        final int[] settings = {2, 9, 0, 0};
        int hooks = 0;
        final int[] letters = new int[MOST_LETTERS];
        int letterCount = 0;

        static boolean allows(int what, int v) {
            return what >= 0 && what < SETTINGS && v >= LEAST[what] && v <= MOST[what];
        }

        void copyFrom(Room other) {
            guests = other.guests;
            System.arraycopy(other.kinds, 0, kinds, 0, MOST_GUESTS);
            System.arraycopy(other.figures, 0, figures, 0, MOST_GUESTS);
            System.arraycopy(other.minutes, 0, minutes, 0, MOST_GUESTS);
            System.arraycopy(other.settings, 0, settings, 0, SETTINGS);
            hooks = other.hooks;
            System.arraycopy(other.letters, 0, letters, 0, MOST_LETTERS);
            letterCount = other.letterCount;
        }

        boolean hasGuest(int g) {
            return g >= 0 && g < guests;
        }

        int welcome(int kind, int figure, int minute) {
            if (guests >= MOST_GUESTS) {
                return NO_ROOM;
            }
            kinds[guests] = kind;
            figures[guests] = figure;
            minutes[guests] = minute;
            guests++;
            return guests - 1;
        }

        void dismiss(int g) {
            for (int i = g; i + 1 < guests; i++) {
                kinds[i] = kinds[i + 1];
                figures[i] = figures[i + 1];
                minutes[i] = minutes[i + 1];
            }
            int ahead = hooks & ((1 << g) - 1);
            int behind = hooks >> (g + 1) << g;
            hooks = ahead | behind;
            guests--;
        }

        boolean hasHook(int g) {
            return (hooks >> g & 1) == 1;
        }

        int toggleHook(int g) {
            if (!hasHook(g) && Integer.bitCount(hooks) >= MOST_HOOKS) {
                return NO_ROOM;
            }
            hooks ^= 1 << g;
            return hasHook(g) ? 1 : 0;
        }

        void takeLetters(Shelf text, int from, int n) {
            letterCount = Math.min(n, MOST_LETTERS);
            for (int i = 0; i < letterCount; i++) {
                letters[i] = text.signAt(from + i);
            }
        }

        int goingMinute(int g) {
            return Kinds.minute(kinds[g], figures[g], minutes[g]);
        }

        int weightOf(int g) {
            return Kinds.weight(kinds[g], figures[g]);
        }

        int spareOf(int g) {
            return Kinds.spare(kinds[g], figures[g]);
        }

        int allWeights() {
            int sum = 0;
            for (int g = 0; g < guests; g++) {
                sum += weightOf(g);
            }
            return sum;
        }
    }

    /** The text of a room: its form is looked at whole, ahead of its sense. */
    private static final class RoomText {
        /** The place of the first byte with which no room can go on, or NONE. */
        static int brokenAt(Shelf text) {
            int at = 0;
            // one statement at least is looked for, and each takes an element at least
            for (int k = 0; k == 0 || k < MOST_ELEMENTS && at < text.size; k++) {
                int broken = brokenIn(text, at);
                if (broken != NONE) {
                    return broken;
                }
                at += lengthOf(text, at);
            }
            return NONE;
        }

        /** The place of the first statement that is not as it must be, or NONE; those ahead come. */
        static int senselessAt(Shelf text, Room draft) {
            int at = 0;
            for (int k = 0; k < MOST_ELEMENTS && at < text.size; k++) {
                if (!comesTrue(text, at, draft)) {
                    return at;
                }
                at += lengthOf(text, at);
            }
            return NONE;
        }

        static int statementsIn(Shelf text) {
            int statements = 0;
            for (int i = 0; i < text.size; i++) {
                if (text.elements[i] == ';') {
                    statements++;
                }
            }
            return statements;
        }

        static boolean isLetterOfRule(int sign) {
            for (int k = 0; k < LETTERS.length; k++) {
                if (LETTERS[k] == sign) {
                    return true;
                }
            }
            return false;
        }

        private static int brokenIn(Shelf text, int at) {
            int letter = text.signAt(at);
            int digits = digitsBehind(letter);
            if (digits == 0 && letter != 'r') {
                return at;
            }
            for (int i = at + 1; i <= at + digits; i++) {
                if (!isDigit(text.signAt(i))) {
                    return i;
                }
            }
            int stop = at + lengthOf(text, at) - 1;
            return text.signAt(stop) == ';' ? NONE : stop;
        }

        /** How long the statement at a place must be, its ";" too. */
        private static int lengthOf(Shelf text, int at) {
            int letter = text.signAt(at);
            return 2 + (letter == 'r' ? lettersBehind(text, at) : digitsBehind(letter));
        }

        private static int lettersBehind(Shelf text, int at) {
            int n = 0;
            while (n < MOST_LETTERS && isLetterOfRule(text.signAt(at + 1 + n))) {
                n++;
            }
            return n;
        }

        private static int digitsBehind(int letter) {
            switch (letter) {
                case 'g':
                    return 4;
                case 'h':
                    return 2;
                case 'b':
                case 'm':
                case 'k':
                    return 1;
                default:
                    return 0;
            }
        }

        private static boolean isDigit(int sign) {
            return sign >= '0' && sign <= '9';
        }

        private static int digitAt(Shelf text, int i) {
            return text.signAt(i) - '0';
        }

        private static boolean comesTrue(Shelf text, int at, Room draft) {
            int first = digitAt(text, at + 1);
            switch (text.signAt(at)) {
                case 'g':
                    return Kinds.isKind(first) && isWelcome(text, at, draft);
                case 'h':
                    return settles(draft, HEAPS, first)
                            && settles(draft, HOLDS, digitAt(text, at + 2));
                case 'b':
                    return settles(draft, BACK, first);
                case 'm':
                    return settles(draft, MISTAKES, first);
                case 'k':
                    return draft.hasGuest(first) && draft.toggleHook(first) != NO_ROOM;
                default:
                    draft.takeLetters(text, at + 1, lettersBehind(text, at));
                    return true;
            }
        }

        private static boolean isWelcome(Shelf text, int at, Room draft) {
            int minute = 10 * digitAt(text, at + 3) + digitAt(text, at + 4);
            int number = draft.welcome(digitAt(text, at + 1), digitAt(text, at + 2), minute);
            return number != NO_ROOM;
        }

        private static boolean settles(Room draft, int what, int v) {
            if (!Room.allows(what, v)) {
                return false;
            }
            draft.settings[what] = v;
            return true;
        }
    }

    /** The coats as they lie: heaps from the bottom on, and where each coat is. */
    private static final class Bed {
        int heaps = 1;
        final int[][] piles = new int[MOST_HEAPS][MOST_GUESTS];
        final int[] heights = new int[MOST_HEAPS];
        final int[] spots = new int[MOST_GUESTS];

        void clear(int newHeaps) {
            heaps = Math.max(1, Math.min(newHeaps, MOST_HEAPS));
            for (int h = 0; h < MOST_HEAPS; h++) {
                heights[h] = 0;
            }
            for (int g = 0; g < MOST_GUESTS; g++) {
                spots[g] = AWAY;
            }
        }

        boolean isOnHeap(int g) {
            return isHeap(spots[g]);
        }

        boolean isFree(int g) {
            return spots[g] == ON_HOOK || spots[g] == ON_FLOOR;
        }

        void lay(int h, int g) {
            if (heights[h] < MOST_GUESTS) {
                piles[h][heights[h]] = g;
                heights[h]++;
                spots[g] = h;
            }
        }

        int coatAt(int h, int i) {
            return i >= 0 && i < heights[h] ? piles[h][i] : NONE;
        }

        int topOf(int h) {
            return heights[h] > 0 ? piles[h][heights[h] - 1] : NONE;
        }

        int coatsAbove(int g) {
            if (!isOnHeap(g)) {
                return 0;
            }
            int h = spots[g];
            int above = 0;
            for (int i = heights[h] - 1; i >= 0 && piles[h][i] != g; i--) {
                above++;
            }
            return above;
        }

        void takeOut(int h, int at) {
            spots[piles[h][at]] = AWAY;
            heights[h]--;
            for (int i = at; i < heights[h]; i++) {
                piles[h][i] = piles[h][i + 1];
            }
        }

        /** Turns over all that lies from a place of a heap on. */
        void turnFrom(int h, int from) {
            int low = from;
            for (int high = heights[h] - 1; high > low; high--) {
                int coat = piles[h][low];
                piles[h][low] = piles[h][high];
                piles[h][high] = coat;
                low++;
            }
        }

        /** Moves all that lies from a place of a heap on, the topmost first, to the next heap. */
        void moveFrom(int h, int from) {
            int next = h + 1 < heaps ? h + 1 : 0;
            for (int i = heights[h] - 1; i >= from; i--) {
                heights[h] = i;
                lay(next, piles[h][i]);
            }
        }

        /** A coat is taken away without a lift, if it can be; whether it could. */
        boolean giveIfFree(int g) {
            if (isFree(g)) {
                spots[g] = AWAY;
                return true;
            }
            if (!isOnHeap(g) || topOf(spots[g]) != g) {
                return false;
            }
            takeOut(spots[g], heights[spots[g]] - 1);
            return true;
        }
    }

    /** All come: finds the heap for each coat by the letters of the rule. */
    private static final class Laying {
        final Bed bed = new Bed();
        final int[] going = new int[MOST_GUESTS];
        final int[] coming = new int[MOST_GUESTS];
        private int holds = 1;
        private int latest = NONE;

        void layAll(Room room) {
            bed.clear(room.settings[HEAPS]);
            holds = room.settings[HOLDS];
            latest = NONE;
            for (int i = 0; i < room.guests; i++) {
                int g = coming[i];
                int h = room.hasHook(g) ? ON_HOOK : heapFor(room, g);
                if (isHeap(h)) {
                    bed.lay(h, g);
                    latest = h;
                } else {
                    bed.spots[g] = h == ON_HOOK ? ON_HOOK : ON_FLOOR;
                }
            }
        }

        private int heapFor(Room room, int g) {
            for (int k = 0; k < room.letterCount; k++) {
                int h = heapByLetter(room.letters[k], g);
                if (h != NONE) {
                    return h;
                }
            }
            return firstFrom(0);
        }

        private int heapByLetter(int letter, int g) {
            switch (letter) {
                case 's':
                    return lowest();
                case 'e':
                    return empty();
                case 'l':
                    return latestTop();
                case 'o':
                    return soonestTopBehind(going[g]);
                case 'r':
                    return firstFrom(latest == NONE ? 0 : latest + 1);
                default:
                    return firstFrom(0);
            }
        }

        private boolean hasRoom(int h) {
            return bed.heights[h] < holds;
        }

        private int firstFrom(int start) {
            for (int i = 0; i < bed.heaps; i++) {
                int h = start + i < bed.heaps ? start + i : start + i - bed.heaps;
                if (hasRoom(h)) {
                    return h;
                }
            }
            return NONE;
        }

        private int lowest() {
            int best = NONE;
            for (int h = 0; h < bed.heaps; h++) {
                if (hasRoom(h) && (best == NONE || bed.heights[h] < bed.heights[best])) {
                    best = h;
                }
            }
            return best;
        }

        private int empty() {
            for (int h = 0; h < bed.heaps; h++) {
                if (bed.heights[h] == 0) {
                    return h;
                }
            }
            return NONE;
        }

        private int latestTop() {
            int best = NONE;
            int bestMinute = 0;
            for (int h = 0; h < bed.heaps; h++) {
                int top = bed.topOf(h);
                if (top != NONE && hasRoom(h) && (best == NONE || going[top] > bestMinute)) {
                    best = h;
                    bestMinute = going[top];
                }
            }
            return best;
        }

        private int soonestTopBehind(int minute) {
            int best = NONE;
            int bestMinute = 0;
            for (int h = 0; h < bed.heaps; h++) {
                int top = bed.topOf(h);
                boolean later = top != NONE && hasRoom(h) && going[top] > minute;
                if (later && (best == NONE || going[top] < bestMinute)) {
                    best = h;
                    bestMinute = going[top];
                }
            }
            return best;
        }
    }

    /** One night: all are laid, all go; its rows are used again for each night. */
    private static final class Night {
        private Room room = new Room();
        final Laying laying = new Laying();
        final Bed bed = laying.bed;
        final int[] going = laying.going;
        final int[] coming = laying.coming;
        final int[] order = new int[MOST_GUESTS];
        private final int[] weights = new int[MOST_GUESTS];
        private final boolean[] black = new boolean[MOST_GUESTS];
        final int[] lifts = new int[MOST_GUESTS];
        final int[] begins = new int[MOST_GUESTS];
        final int[] ends = new int[MOST_GUESTS];
        final int[] has = new int[MOST_GUESTS];
        final int[] lifted = new int[MOST_GUESTS];
        int allLifts = 0;
        private int doneAt = 0;

        /** All as it is told, nobody laid, nobody gone. */
        void begin(Room newRoom) {
            room = newRoom;
            for (int g = 0; g < room.guests; g++) {
                going[g] = room.goingMinute(g);
                weights[g] = room.weightOf(g);
                black[g] = Kinds.isBlack(room.kinds[g]);
                coming[g] = g;
            }
            sortByGoing();
        }

        private void sortByGoing() {
            for (int g = 0; g < room.guests; g++) {
                int place = g;
                while (place > 0 && going[order[place - 1]] > going[g]) {
                    order[place] = order[place - 1];
                    place--;
                }
                order[place] = g;
            }
        }

        void layAs(int[] heaps) {
            bed.clear(room.settings[HEAPS]);
            for (int g = 0; g < room.guests; g++) {
                if (isHeap(heaps[g])) {
                    bed.lay(heaps[g], g);
                } else {
                    bed.spots[g] = ON_HOOK;
                }
            }
        }

        /** All come and go; all lifts. */
        int pass(Room newRoom) {
            begin(newRoom);
            laying.layAll(room);
            return letGo(room.guests, NONE);
        }

        /** So many go; all heaps are turned over ahead of a place in the order (NONE: never). */
        int letGo(int goers, int turnedAhead) {
            allLifts = 0;
            doneAt = 0;
            for (int g = 0; g < room.guests; g++) {
                lifts[g] = 0;
                lifted[g] = 0;
                has[g] = NONE;
            }
            for (int place = 0; place < goers; place++) {
                if (place == turnedAhead) {
                    turnAll();
                }
                goOne(order[place]);
            }
            return allLifts;
        }

        private void turnAll() {
            for (int h = 0; h < bed.heaps; h++) {
                bed.turnFrom(h, 0);
                for (int i = 0; i < bed.heights[h]; i++) {
                    allLifts += weights[bed.piles[h][i]];
                }
            }
        }

        private void goOne(int g) {
            begins[g] = going[g];
            ends[g] = going[g];
            if (bed.isFree(g)) {
                has[g] = g;
                bed.spots[g] = AWAY;
                return;
            }
            begins[g] = Math.max(going[g], doneAt);
            int h = bed.isOnHeap(g) ? bed.spots[g] : heapWithBlack();
            if (h != NONE) {
                dig(g, h);
            }
            ends[g] = begins[g] + lifts[g];
            doneAt = ends[g];
        }

        private int heapWithBlack() {
            for (int h = 0; h < bed.heaps; h++) {
                for (int i = 0; i < bed.heights[h]; i++) {
                    if (black[bed.piles[h][i]]) {
                        return h;
                    }
                }
            }
            return NONE;
        }

        private void dig(int g, int h) {
            int at = bed.heights[h] - 1;
            while (at >= 0 && !takes(g, bed.piles[h][at])) {
                int coat = bed.piles[h][at];
                lifts[g] += weights[coat];
                allLifts += weights[coat];
                lifted[coat]++;
                at--;
            }
            if (at < 0) {
                return;
            }
            has[g] = bed.piles[h][at];
            bed.takeOut(h, at);
            int back = room.settings[BACK];
            if (back == 2 && bed.heaps > 1) {
                bed.moveFrom(h, at);
            } else if (back != 0) {
                bed.turnFrom(h, at);
            }
        }

        private boolean takes(int g, int coat) {
            return coat == g || room.settings[MISTAKES] == 1 && black[g] && black[coat];
        }

        int placeOf(int g) {
            for (int place = 0; place < room.guests; place++) {
                if (order[place] == g) {
                    return place;
                }
            }
            return NONE;
        }

        /** The place of the first who goes in a minute or behind it, or NONE. */
        int firstFromMinute(int m) {
            for (int place = 0; place < room.guests; place++) {
                if (going[order[place]] >= m) {
                    return place;
                }
            }
            return NONE;
        }

        int allWaiting() {
            int sum = 0;
            for (int g = 0; g < room.guests; g++) {
                sum += begins[g] - going[g];
            }
            return sum;
        }

        int howManyHaveAnothers() {
            int n = 0;
            for (int g = 0; g < room.guests; g++) {
                if (has[g] != g && has[g] != NONE) {
                    n++;
                }
            }
            return n;
        }

        int howManyHaveNone() {
            int n = 0;
            for (int g = 0; g < room.guests; g++) {
                if (has[g] == NONE) {
                    n++;
                }
            }
            return n;
        }

        int lastEnd() {
            int last = 0;
            for (int g = 0; g < room.guests; g++) {
                last = Math.max(last, ends[g]);
            }
            return last;
        }

        int missers() {
            int bits = 0;
            for (int g = 0; g < room.guests; g++) {
                if (ends[g] > going[g] + room.spareOf(g)) {
                    bits |= 1 << g;
                }
            }
            return bits;
        }

        int stepsRound(int g) {
            int at = g;
            for (int steps = 1; steps <= room.guests; steps++) {
                at = has[at];
                if (at == NONE) {
                    return 0;
                }
                if (at == g) {
                    return steps;
                }
            }
            return 0;
        }
    }

    /** Orders of a few numbers, by numbers rising. */
    private static final class Orders {
        static int howMany(int n) {
            int orders = 1;
            for (int k = 2; k <= n; k++) {
                orders *= k;
            }
            return orders;
        }

        static void first(int[] row, int n) {
            for (int i = 0; i < n; i++) {
                row[i] = i;
            }
        }

        /** The next order; the last one stays as it is. */
        static void next(int[] row, int n) {
            int rise = n - 2;
            while (rise >= 0 && row[rise] > row[rise + 1]) {
                rise--;
            }
            if (rise < 0) {
                return;
            }
            int greater = n - 1;
            while (greater > rise && row[greater] < row[rise]) {
                greater--;
            }
            swap(row, rise, greater);
            int low = rise + 1;
            for (int high = n - 1; high > low; high--) {
                swap(row, low, high);
                low++;
            }
        }

        private static void swap(int[] row, int i, int j) {
            int kept = row[i];
            row[i] = row[j];
            row[j] = kept;
        }

        static int asDigits(int[] row, int n) {
            int digits = 0;
            for (int i = 0; i < n; i++) {
                digits = 10 * digits + row[i];
            }
            return digits;
        }

        static int greatestDivisor(int a, int b) {
            int high = a;
            int low = b;
            // some fifty steps are the most that ints can need
            for (int steps = 0; steps < 100 && low != 0; steps++) {
                int rest = high % low;
                high = low;
                low = rest;
            }
            return high;
        }
    }

    /** How a night would go if something were other than it is told. */
    private static final class Trials {
        private static final int CHOICES = 3;
        private static final int MINUTES_A_CHOICE = 5;
        private static final int MINUTES_DRAWN = 60;

        final Room trial = new Room();
        private final Night night = new Night();
        private final int[] row = new int[MOST_GUESTS];
        private final int[] firstsLifts = new int[CHOICES * CHOICES];
        private final int[] othersLifts = new int[CHOICES * CHOICES];
        private int seed = 0;
        int found = NONE;
        int foundLifts = NONE;
        int mostLifts = 0;
        int sumOfLifts = 0;
        int sumOfMissers = 0;

        private void findNothing() {
            found = NONE;
            foundLifts = NONE;
        }

        private void findIfFewer(int what, int lifts) {
            if (foundLifts == NONE || lifts < foundLifts) {
                found = what;
                foundLifts = lifts;
            }
        }

        int fewestHeaps(Room room) {
            chainLengths(room);
            int longest = 0;
            for (int g = 0; g < room.guests; g++) {
                longest = Math.max(longest, row[g]);
            }
            return longest;
        }

        /** For each guest: how many, it first, come and go one behind the other, at most. */
        private void chainLengths(Room room) {
            night.begin(room);
            for (int g = room.guests - 1; g >= 0; g--) {
                row[g] = 1;
                for (int later = g + 1; later < room.guests; later++) {
                    // of two in one minute the higher number goes later, so equal is later, too
                    if (night.going[later] >= night.going[g]) {
                        row[g] = Math.max(row[g], row[later] + 1);
                    }
                }
            }
        }

        int shownGuest(Room room, int i) {
            int wanted = fewestHeaps(room);
            int lastMinute = -1;
            int shown = 0;
            for (int g = 0; g < room.guests; g++) {
                if (row[g] == wanted && night.going[g] >= lastMinute) {
                    if (shown == i) {
                        return g;
                    }
                    shown++;
                    wanted--;
                    lastMinute = night.going[g];
                }
            }
            return NONE;
        }

        void tryAllLayings(Room room) {
            findNothing();
            night.begin(room);
            for (int g = 0; g < room.guests; g++) {
                row[g] = room.hasHook(g) ? ON_HOOK : 0;
            }
            int layings = 1;
            for (int g = 0; g < room.guests; g++) {
                layings *= room.hasHook(g) ? 1 : room.settings[HEAPS];
            }
            // nothing is fewer than no lift, and the first by digits is wanted
            for (int k = 0; k < layings && foundLifts != 0; k++) {
                tryLaying(room);
                nextLaying(room);
            }
        }

        private void tryLaying(Room room) {
            night.layAs(row);
            for (int h = 0; h < MOST_HEAPS; h++) {
                if (night.bed.heights[h] > room.settings[HOLDS]) {
                    return;
                }
            }
            int lifts = night.letGo(room.guests, NONE);
            findIfFewer(Orders.asDigits(row, room.guests), lifts);
        }

        private void nextLaying(Room room) {
            for (int g = room.guests - 1; g >= 0; g--) {
                if (row[g] == ON_HOOK) {
                    continue;
                }
                row[g]++;
                if (row[g] < room.settings[HEAPS]) {
                    return;
                }
                row[g] = 0;
            }
        }

        int liftsWith(Room room, int what, int v) {
            trial.copyFrom(room);
            trial.settings[what] = v;
            return night.pass(trial);
        }

        int liftsWithLetter(Room room, int k) {
            trial.copyFrom(room);
            trial.letters[0] = LETTERS[k];
            trial.letterCount = 1;
            return night.pass(trial);
        }

        void tryHooks(Room room, int k) {
            findNothing();
            trial.copyFrom(room);
            for (int bits = 0; bits < 1 << room.guests && foundLifts != 0; bits++) {
                if (Integer.bitCount(bits) == k) {
                    trial.hooks = bits;
                    findIfFewer(bits, night.pass(trial));
                }
            }
        }

        void tryGoingAlong(Room room, int g) {
            findNothing();
            int now = night.pass(room);
            int place = night.placeOf(g);
            for (int other = 0; other < room.guests; other++) {
                night.begin(room);
                int ahead = night.placeOf(other);
                if (ahead < place) {
                    goJustBehind(g, place, ahead);
                    int lifts = liftsInOrder(room, NONE);
                    if (lifts < now) {
                        findIfFewer(other, lifts);
                    }
                }
            }
        }

        private void goJustBehind(int g, int place, int ahead) {
            for (int i = place; i > ahead + 1; i--) {
                night.order[i] = night.order[i - 1];
            }
            night.order[ahead + 1] = g;
        }

        int liftsWithTurn(Room room, int m) {
            night.begin(room);
            return liftsInOrder(room, night.firstFromMinute(m));
        }

        /** All lifts as the order of going now is, all turned over ahead of a place in it. */
        private int liftsInOrder(Room room, int turnedAhead) {
            night.laying.layAll(room);
            return night.letGo(room.guests, turnedAhead);
        }

        int bestMinuteToTurn(Room room) {
            night.begin(room);
            findNothing();
            foundLifts = liftsInOrder(room, NONE);
            int placeBefore = NONE;
            for (int m = 0; m <= LAST_MINUTE; m++) {
                int place = night.firstFromMinute(m);
                // minutes ahead of the same going are alike, and the first is wanted
                if (place != NONE && place != placeBefore) {
                    findIfFewer(m, liftsInOrder(room, place));
                }
                placeBefore = place;
            }
            return found;
        }

        void tryAllGoings(Room room) {
            findNothing();
            sumOfLifts = 0;
            mostLifts = 0;
            night.begin(room);
            Orders.first(night.order, room.guests);
            int orders = Orders.howMany(room.guests);
            for (int k = 0; k < orders; k++) {
                int lifts = liftsInOrder(room, NONE);
                sumOfLifts += lifts;
                mostLifts = Math.max(mostLifts, lifts);
                findIfFewer(k, lifts);
                Orders.next(night.order, room.guests);
            }
        }

        /** Without whom one lifts less (bits). */
        int inTheWayOf(Room room, int g) {
            night.pass(room);
            int now = night.lifts[g];
            int bits = 0;
            for (int other = 0; other < room.guests; other++) {
                if (other != g) {
                    trial.copyFrom(room);
                    trial.dismiss(other);
                    night.pass(trial);
                    if (night.lifts[other < g ? g - 1 : g] < now) {
                        bits |= 1 << other;
                    }
                }
            }
            return bits;
        }

        /** The first pair of choices by which neither of two lifts less by another choice alone. */
        int restOfTwo(Room room, int a, int b) {
            for (int pair = 0; pair < CHOICES * CHOICES; pair++) {
                trial.copyFrom(room);
                trial.minutes[a] += MINUTES_A_CHOICE * (pair / CHOICES);
                trial.minutes[b] += MINUTES_A_CHOICE * (pair % CHOICES);
                night.pass(trial);
                firstsLifts[pair] = night.lifts[a];
                othersLifts[pair] = night.lifts[b];
            }
            for (int pair = 0; pair < CHOICES * CHOICES; pair++) {
                if (rests(pair)) {
                    return 10 * (pair / CHOICES) + pair % CHOICES;
                }
            }
            return NONE;
        }

        private boolean rests(int pair) {
            int first = pair / CHOICES;
            int other = pair % CHOICES;
            for (int c = 0; c < CHOICES; c++) {
                if (firstsLifts[c * CHOICES + other] < firstsLifts[pair]
                        || othersLifts[first * CHOICES + c] < othersLifts[pair]) {
                    return false;
                }
            }
            return true;
        }

        /** In how many orders of coming heap 0 is laid as a row tells; the first is found. */
        int tryAllComings(Room room, Shelf told) {
            findNothing();
            int fitting = 0;
            night.begin(room);
            int orders = Orders.howMany(room.guests);
            for (int k = 0; k < orders; k++) {
                night.laying.layAll(room);
                if (isHeapZero(told)) {
                    fitting++;
                    findIfFewer(Orders.asDigits(night.coming, room.guests), 0);
                }
                Orders.next(night.coming, room.guests);
            }
            return fitting;
        }

        private boolean isHeapZero(Shelf told) {
            if (told.size != night.bed.heights[0]) {
                return false;
            }
            for (int i = 0; i < told.size; i++) {
                if (told.elements[i] != night.bed.coatAt(0, i)) {
                    return false;
                }
            }
            return true;
        }

        void tryNights(Room room, int n, int z) {
            seed = z;
            sumOfLifts = 0;
            sumOfMissers = 0;
            trial.copyFrom(room);
            for (int k = 0; k < n; k++) {
                for (int g = 0; g < trial.guests; g++) {
                    trial.minutes[g] = draw(MINUTES_DRAWN);
                }
                sumOfLifts += night.pass(trial);
                sumOfMissers += Integer.bitCount(night.missers());
            }
        }

        private int draw(int below) {
            seed = seed * 1103515245 + 12345;
            return below < 1 ? 0 : (seed & 0x7fffffff) / 65536 % below;
        }
    }
}
