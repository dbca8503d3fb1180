import java.util.function.ToLongFunction;

/**
 * The order in which several refusals of one call are told: for each two of one call a run in
 * which both are due; and that a refused call changes nothing, neither of the room, the shelves,
 * nor the image.
 */
public final class RefusalsTest {
    private static final Check C = new Check();
    private static final String SIX = "g0010;g1020;g3030;g4440;g5550;g6660;";

    /** What each shelf holds in the rooms of this test. */
    private static final int COAT = 0;
    private static final int TEXT = 1;
    private static final int SHORTS = 2;
    private static final int INTS = 3;
    private static final int NOTHING = 4;
    private static final int BROKEN = 5;
    private static final int SENSELESS = 6;
    private static final int SLEEPER = 7;

    private RefusalsTest() {
    }

    public static void main(String[] args) {
        ofTheRoom();
        ofComing();
        ofHooks();
        ofRules();
        ofNone();
        ofManyGuests();
        ofReading();
        ofRows();
        ofCopies();
        ofElements();
        ofCoats();
        ofImages();
        faultsOfTexts();
        C.end();
    }

    private static CoatsOnTheBed furnished(String text) {
        CoatsOnTheBed x = Rooms.of(text);
        x.image();
        x.keep(COAT, 1, 2, 9);
        Rooms.bytes(x, TEXT, "b1;");
        Rooms.row(x, SHORTS, 1, 'f', 's', 1, 0, 'o', 'r', 'l');
        Rooms.row(x, INTS, 2, 1, 0);
        x.keep(NOTHING, 0, 0, 0);
        Rooms.bytes(x, BROKEN, "b1;m1;r;x;h40;");
        Rooms.bytes(x, SENSELESS, "g0000;k0;h11;b2;m1;re;g8000;");
        x.keep(SLEEPER, 1, 7, 9);
        // what is there now is not what the image has
        x.set(2, 1);
        if (x.count(0) > 0) {
            x.goes(0, 77);
        }
        return x;
    }

    /** The refusal is told, and all is as it was, the image too. */
    private static void refused(String text, String call, ToLongFunction<CoatsOnTheBed> asked,
            long want) {
        CoatsOnTheBed x = furnished(text);
        CoatsOnTheBed untouched = furnished(text);
        C.part(text);
        C.due(call, asked.applyAsLong(x), want);
        C.holds(call + " changes nothing", Rooms.all(x).equals(Rooms.all(untouched)));
        C.holds(call + " changes no heap", laid(x).equals(laid(untouched)));
        C.due(call + ": restored", x.restore(), untouched.restore());
        C.holds(call + " changes nothing of the image", Rooms.all(x).equals(Rooms.all(untouched)));
        C.holds(call + " changes no heap of the image", laid(x).equals(laid(untouched)));
    }

    private static String laid(CoatsOnTheBed x) {
        StringBuilder s = new StringBuilder();
        for (int gone = 0; gone <= x.count(0); gone++) {
            for (int h = 0; h < 3; h++) {
                for (int i = 0; i < 10; i++) {
                    s.append(x.then(gone, h, i)).append(' ');
                }
            }
        }
        for (int k = 0; k < 6; k++) {
            s.append(x.rival(k)).append(' ');
        }
        return s.toString();
    }

    private static void ofTheRoom() {
        String six = SIX + "h23;rse;";
        for (int d : new int[] {Integer.MIN_VALUE, -1, 8, Integer.MAX_VALUE}) {
            refused(six, "room", x -> x.room(d), -1);
            refused(six, "rule", x -> x.rule(d), -1);
            refused(six, "judge", x -> x.judge(d), -1);
            refused(six, "cost", x -> x.cost(d), -1);
            refused(six, "toss", x -> x.toss(d), -1);
            refused(six, "keep", x -> x.keep(d, 1, 0, 0), -1);
            refused(six, "keep nothing", x -> x.keep(d, 0, 0, 0), -1);
        }
        for (int g : new int[] {Integer.MIN_VALUE, -1, 6, Integer.MAX_VALUE}) {
            refused(six, "leaves", x -> x.leaves(g), -1);
            refused(six, "goes", x -> x.goes(g, 50), -1);
            refused(six, "hook", x -> x.hook(g), -1);
        }
        for (int v : new int[] {Integer.MIN_VALUE, -1, 100, Integer.MAX_VALUE}) {
            refused(six, "goes", x -> x.goes(0, v), -1);
            refused(six, "set HEAPS", x -> x.set(0, v), -1);
            refused(six, "set HOLDS", x -> x.set(1, v), -1);
            refused(six, "set BACK", x -> x.set(2, v), -1);
            refused(six, "set MISTAKES", x -> x.set(3, v), -1);
            refused(six, "set what", x -> x.set(v, 1), -1);
            refused(six, "keep what", x -> x.keep(COAT, v, 0, 0), -1);
            refused(six, "keep KIND", x -> x.keep(COAT, 1, v, 0), -1);
            refused(six, "keep FIGURE", x -> x.keep(COAT, 1, 0, v), -1);
        }
        int[][] firstBeyond = {{0, 0}, {0, 4}, {1, 0}, {1, 10}, {2, -1}, {2, 3}, {3, -1}, {3, 2},
            {4, 0}, {4, 1}, {-1, 1}};
        for (int[] s : firstBeyond) {
            refused(six, "set " + s[0] + " to " + s[1], x -> x.set(s[0], s[1]), -1);
        }
        refused(six, "keep KIND 8", x -> x.keep(COAT, 1, 8, 0), -1);
        refused(six, "keep FIGURE 10", x -> x.keep(TEXT, 1, 0, 10), -1);
        refused(six, "keep what 2", x -> x.keep(NOTHING, 2, 0, 0), -1);
    }

    /** -1, -11, -12 (a ROW), -2. */
    private static void ofComing() {
        String ten = "g0010;".repeat(10);
        refused(SIX, "comes, nothing", x -> x.comes(NOTHING, 5), -11);
        refused(SIX, "comes, a row", x -> x.comes(TEXT, 5), -12);
        refused(SIX, "comes, shorts", x -> x.comes(SHORTS, 5), -12);
        refused(SIX, "comes, ints", x -> x.comes(INTS, 5), -12);
        refused(ten, "comes, no room", x -> x.comes(COAT, 5), -2);
        for (int minute : new int[] {-1, 100}) {
            refused(SIX, "comes, no such minute", x -> x.comes(COAT, minute), -1);
            refused(SIX, "-1 ahead of -11", x -> x.comes(NOTHING, minute), -1);
            refused(SIX, "-1 ahead of -12", x -> x.comes(TEXT, minute), -1);
            refused(ten, "-1 ahead of -2", x -> x.comes(COAT, minute), -1);
            refused(ten, "-1 ahead of -11, -2", x -> x.comes(NOTHING, minute), -1);
            refused(SIX, "no shelf, no minute", x -> x.comes(8, minute), -1);
        }
        for (int d : new int[] {-1, 8}) {
            refused(SIX, "comes, no shelf", x -> x.comes(d, 5), -1);
            refused(ten, "-1 ahead of -2", x -> x.comes(d, 5), -1);
        }
        refused(ten, "-11 ahead of -2", x -> x.comes(NOTHING, 5), -11);
        refused(ten, "-12 ahead of -2", x -> x.comes(TEXT, 5), -12);
    }

    /** -1, -2. */
    private static void ofHooks() {
        String full = SIX + "k0;k2;k4;";
        refused(full, "hook, none left", x -> x.hook(1), -2);
        refused(full, "hook, none left", x -> x.hook(5), -2);
        refused(full, "-1 ahead of -2", x -> x.hook(6), -1);
        refused(full, "-1 ahead of -2", x -> x.hook(-1), -1);
        refused("m1;", "hook of nobody", x -> x.hook(0), -1);
    }

    /** -1, -11, -12 (no ROW of bytes), -13 (more than 6, another letter). */
    private static void ofRules() {
        String ruled = SIX + "h33;rer;";
        refused(ruled, "rule, nothing", x -> x.rule(NOTHING), -11);
        refused(ruled, "rule, a coat", x -> x.rule(COAT), -12);
        refused(ruled, "rule, shorts", x -> x.rule(SHORTS), -12);
        refused(ruled, "rule, ints", x -> x.rule(INTS), -12);
        refused(ruled, "rule, another letter", x -> x.rule(TEXT), -13);
        refused(ruled, "rule, too many", x -> {
            Rooms.bytes(x, NOTHING, "fffffff");
            long answer = x.rule(NOTHING);
            x.keep(NOTHING, 0, 0, 0);
            return answer;
        }, -13);
        refused(ruled, "-12 ahead of -13: seven shorts, one no letter", x -> x.rule(SHORTS), -12);
        refused(ruled, "room, nothing", x -> x.room(NOTHING), -11);
        refused(ruled, "room, a coat", x -> x.room(COAT), -12);
        refused(ruled, "room, shorts", x -> x.room(SHORTS), -12);
        refused(ruled, "room, ints", x -> x.room(INTS), -12);
    }

    /** -4 is told only where nothing is refused. */
    private static void ofNone() {
        refused(SIX, "heap: -1 ahead of none", x -> x.heap(3, 99), -1);
        refused(SIX, "heap: -1 ahead of none", x -> x.heap(-1, 99), -1);
        refused(SIX, "then: -1 ahead of none, gone", x -> x.then(7, 0, 99), -1);
        refused(SIX, "then: -1 ahead of none, gone", x -> x.then(-1, 0, 99), -1);
        refused(SIX, "then: -1 ahead of none, h", x -> x.then(6, 3, 99), -1);
        refused(SIX, "then: -1 ahead of none, i", x -> x.then(6, 0, -1), -1);
        refused(SIX, "along: -1 ahead of none, what", x -> x.along(0, 2), -1);
        refused(SIX, "along: -1 ahead of none, g", x -> x.along(6, 0), -1);
        refused(SIX, "fate, g and what", x -> x.fate(6, 6), -1);
        refused(SIX, "guest, g and what", x -> x.guest(-1, 9), -1);
        refused(SIX, "whom, k and what", x -> x.whom(4, 2), -1);
        refused(SIX, "two, one twice that is not there", x -> x.two(6, 6), -1);
        refused(SIX, "enough", x -> x.enough(-1), -1);
        refused(SIX, "enough", x -> x.enough(1000), -1);
        refused("m1;", "order of nobody: -1 ahead of none", x -> x.order(-1), -1);
        refused("m1;", "shown of nobody: -1 ahead of none", x -> x.shown(-1), -1);
        refused("m1;", "least of nobody", x -> x.least(2), -1);
        refused("m1;", "count of others", x -> x.count(8), -1);
        refused(SIX, "heap: none", x -> x.heap(0, 6), -4);
        refused(SIX, "then: none", x -> x.then(6, 0, 0), -4);
        refused(SIX, "order: none", x -> x.order(6), -4);
        refused(SIX, "shown: none", x -> x.shown(6), -4);
        refused(SIX, "enough: none", x -> x.enough(0), -4);
        refused("h19;g0020;g0010;", "along: none", x -> x.along(0, 0), -4);
        refused("h19;g0020;g0010;", "bestTurn: none", x -> x.bestTurn(), -4);
    }

    /** -1, -3 more than 6 GUESTS (5, of orders). */
    private static void ofManyGuests() {
        String seven = "h11;" + SIX + "g0000;";
        refused(seven, "least, seven", x -> x.least(0), -3);
        refused(seven, "least, seven", x -> x.least(1), -3);
        refused(seven, "-1 ahead of -3", x -> x.least(2), -1);
        refused(seven, "-1 ahead of -3", x -> x.least(-1), -1);
        refused("h11;" + SIX, "six: none", x -> x.least(0), -4);
        refused("h11;" + SIX, "six, -1 ahead of none", x -> x.least(2), -1);
        refused(SIX, "mean, six", x -> x.mean(0), -1000000003L);
        refused(SIX, "mean, six", x -> x.mean(1), -1000000003L);
        refused(SIX, "-1 ahead of -3", x -> x.mean(2), -1000000001L);
        refused(SIX, "-1 ahead of -3", x -> x.mean(-1), -1000000001L);
        refused(SIX, "orders, six", x -> x.orders(0), -3);
        refused(SIX, "-1 ahead of -3", x -> x.orders(2), -1);
        refused(SIX, "-1 ahead of -3", x -> x.orders(-1), -1);
    }

    /** -1, -11, -12 (no ROW), -3 more than 6 GUESTS. */
    private static void ofReading() {
        String seven = SIX + "g0000;";
        refused(SIX, "judge, nothing", x -> x.judge(NOTHING), -11);
        refused(SIX, "judge, a coat", x -> x.judge(COAT), -12);
        refused(SIX, "reads, nothing", x -> x.reads(NOTHING, 0), -11);
        refused(SIX, "reads, a coat", x -> x.reads(COAT, 0), -12);
        refused(seven, "reads, seven", x -> x.reads(INTS, 0), -3);
        refused(seven, "-11 ahead of -3", x -> x.reads(NOTHING, 0), -11);
        refused(seven, "-12 ahead of -3", x -> x.reads(COAT, 1), -12);
        for (int what : new int[] {-1, 2}) {
            refused(SIX, "reads, no such what", x -> x.reads(INTS, what), -1);
            refused(SIX, "-1 ahead of -11", x -> x.reads(NOTHING, what), -1);
            refused(SIX, "-1 ahead of -12", x -> x.reads(COAT, what), -1);
            refused(seven, "-1 ahead of -3", x -> x.reads(INTS, what), -1);
            refused(seven, "-1 ahead of -11, -3", x -> x.reads(NOTHING, what), -1);
            refused(seven, "-1 ahead of -12, -3", x -> x.reads(COAT, what), -1);
        }
        for (int d : new int[] {-1, 8}) {
            refused(SIX, "reads, no shelf", x -> x.reads(d, 0), -1);
            refused(seven, "no shelf ahead of -3", x -> x.reads(d, 0), -1);
        }
        refused(SIX, "none is laid so", x -> x.reads(SHORTS, 1), -4);
        refused(SIX, "nights, n", x -> x.nights(0, 1, 0), -1);
        refused(SIX, "nights, n", x -> x.nights(21, 1, 0), -1);
        refused(SIX, "nights, what", x -> x.nights(1, 1, 2), -1);
        refused(SIX, "nights, n and what", x -> x.nights(0, 1, 2), -1);
    }

    /** row: -1 (n above 100); -14. put: -1, -11, -12, -13. */
    private static void ofRows() {
        for (int d : new int[] {COAT, TEXT, INTS, NOTHING}) {
            refused(SIX, "row, below 0", x -> x.row(d, 0, -1), -14);
            refused(SIX, "row, far below 0", x -> x.row(d, 2, Integer.MIN_VALUE), -14);
            refused(SIX, "row, above 100", x -> x.row(d, 1, 101), -1);
            refused(SIX, "row, no such sort", x -> x.row(d, 3, 1), -1);
            refused(SIX, "row, no such sort", x -> x.row(d, -1, 1), -1);
            refused(SIX, "-1 ahead of -14, the sort", x -> x.row(d, 3, -1), -1);
            refused(SIX, "-1 ahead of -14, the sort", x -> x.row(d, -1, -1), -1);
        }
        for (int d : new int[] {-1, 8}) {
            refused(SIX, "row, no shelf", x -> x.row(d, 0, 1), -1);
            refused(SIX, "-1 ahead of -14, the shelf", x -> x.row(d, 0, -1), -1);
            refused(SIX, "put, no shelf", x -> x.put(d, 0, 1), -1);
            refused(SIX, "-1 ahead of -13", x -> x.put(d, -1, 1), -1);
        }
        refused(SIX, "put, nothing", x -> x.put(NOTHING, 0, 1), -11);
        refused(SIX, "put, a coat", x -> x.put(COAT, 0, 1), -12);
        refused(SIX, "put, no place", x -> x.put(INTS, 2, 1), -13);
        refused(SIX, "put, no place", x -> x.put(TEXT, 3, 1), -13);
        refused(SIX, "put, no place", x -> x.put(INTS, -1, 1), -13);
        refused(SIX, "-11 ahead of -13", x -> x.put(NOTHING, -1, 1), -11);
        refused(SIX, "-11 ahead of -13", x -> x.put(NOTHING, 100, 1), -11);
        refused(SIX, "-12 ahead of -13", x -> x.put(COAT, -1, 1), -12);
        refused(SIX, "-12 ahead of -13", x -> x.put(COAT, 100, 1), -12);
    }

    /** -1, -11 (either), -12 (no ROWS of one SORT), -13. */
    private static void ofCopies() {
        int[] places = {0, -1};
        for (int i : places) {
            for (int d : new int[] {-1, 8}) {
                for (int other = 0; other < 8; other++) {
                    int o = other;
                    refused(SIX, "no shelf first, beside " + o, x -> x.copy(d, i, o, 0, 1), -1);
                    refused(SIX, "no shelf behind, beside " + o, x -> x.copy(o, 0, d, i, 1), -1);
                }
                refused(SIX, "no shelf twice", x -> x.copy(d, i, d, 0, 1), -1);
            }
            for (int other = 0; other < 8; other++) {
                int o = other;
                refused(SIX, "nothing first, beside " + o, x -> x.copy(NOTHING, i, o, 0, 1), -11);
                refused(SIX, "nothing behind, beside " + o, x -> x.copy(o, 0, NOTHING, i, 1), -11);
                if (o != NOTHING) {
                    refused(SIX, "a coat first, beside " + o, x -> x.copy(COAT, i, o, 0, 1), -12);
                    refused(SIX, "a coat behind, beside " + o, x -> x.copy(o, 0, COAT, i, 1), -12);
                }
            }
            refused(SIX, "bytes and shorts", x -> x.copy(TEXT, i, SHORTS, 0, 1), -12);
            refused(SIX, "shorts and bytes", x -> x.copy(SHORTS, i, TEXT, 0, 1), -12);
            refused(SIX, "shorts and ints", x -> x.copy(SHORTS, 0, INTS, i, 1), -12);
            refused(SIX, "ints and bytes", x -> x.copy(INTS, i, TEXT, 0, 99), -12);
            refused(SIX, "of one kind but no place", x -> x.copy(TEXT, i, BROKEN, 0, 4), -13);
        }
        refused(SIX, "the first is too short", x -> x.copy(TEXT, 1, BROKEN, 0, 3), -13);
        refused(SIX, "the other is too short", x -> x.copy(BROKEN, 0, TEXT, 1, 3), -13);
        refused(SIX, "below 0", x -> x.copy(BROKEN, 5, TEXT, 1, -1), -13);
        refused(SIX, "so far that it wraps", x -> x.copy(BROKEN, 1, TEXT, 0,
                Integer.MAX_VALUE), -13);
        refused(SIX, "so far that it wraps", x -> x.copy(BROKEN, Integer.MAX_VALUE, TEXT, 0, 2), -13);
        refused(SIX, "so far that it wraps", x -> x.copy(BROKEN, 0, TEXT, Integer.MAX_VALUE, 2), -13);
    }

    /** IllegalArgumentException: no such SHELF; IllegalStateException: no ROW, no such place. */
    private static void ofElements() {
        for (int d : new int[] {Integer.MIN_VALUE, -1, 8, Integer.MAX_VALUE}) {
            refused(SIX, "no shelf", x -> Rooms.thrown(x, d, 0), 1);
            refused(SIX, "no shelf ahead of no place", x -> Rooms.thrown(x, d, -1), 1);
        }
        refused(SIX, "nothing", x -> Rooms.thrown(x, NOTHING, 0), 2);
        refused(SIX, "a coat", x -> Rooms.thrown(x, COAT, 0), 2);
        refused(SIX, "no place", x -> Rooms.thrown(x, INTS, 2), 2);
        refused(SIX, "no place", x -> Rooms.thrown(x, INTS, -1), 2);
        refused(SIX, "a place", x -> Rooms.thrown(x, INTS, 1), 0);
    }

    /** -1, -11, -12 (a ROW); -15. */
    private static void ofCoats() {
        refused(SIX, "cost, nothing", x -> x.cost(NOTHING), -11);
        refused(SIX, "cost, a row", x -> x.cost(TEXT), -12);
        refused(SIX, "cost, shorts", x -> x.cost(SHORTS), -12);
        refused(SIX, "cost, ints", x -> x.cost(INTS), -12);
        refused(SIX, "toss, nothing", x -> x.toss(NOTHING), -11);
        refused(SIX, "toss, a row", x -> x.toss(TEXT), -12);
        refused(SIX, "toss, shorts", x -> x.toss(SHORTS), -12);
        refused(SIX, "toss, ints", x -> x.toss(INTS), -12);
        refused(SIX, "toss, a sleeper", x -> x.toss(SLEEPER), -15);
    }

    private static void ofImages() {
        C.part("restore: -3 there is none");
        CoatsOnTheBed x = Rooms.of(SIX + "k1;h22;rs;");
        String before = Rooms.all(x);
        C.due("none", x.restore(), -3);
        C.holds("nothing changes", before.equals(Rooms.all(x)));
        C.due("taken", x.image(), 6);
        C.due("there is one", x.restore(), 6);
        C.due("and still", x.restore(), 6);
        C.holds("as it was", before.equals(Rooms.all(x)));
    }

    /** Without FAULT all of it comes, with one nothing; kind 1 is told ahead of kind 2. */
    private static void faultsOfTexts() {
        String six = SIX + "h23;rse;k1;";
        refused(six, "kind 1 ahead of kind 2", x -> x.room(BROKEN), -1008);
        refused(six, "kind 2, behind six that are right", x -> x.room(SENSELESS), -2022);
        String[] texts = {"h40;x", "h40;b", "k9;g000x;", "g0000;k9;rx;", "m2;b3;k9;"};
        int[] faults = {-1004, -1005, -1007, -1010, -2000};
        for (int i = 0; i < texts.length; i++) {
            String told = texts[i];
            refused(six, told, x -> {
                Rooms.bytes(x, NOTHING, told);
                long answer = x.room(NOTHING);
                x.keep(NOTHING, 0, 0, 0);
                return answer;
            }, faults[i]);
        }
    }
}
