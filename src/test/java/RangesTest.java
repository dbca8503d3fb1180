import java.util.function.Consumer;

/**
 * Each argument of each call: the least and the largest number that is taken, with the answer due
 * there, and the first ones beyond on both sides, and the farthest, which are refused.
 */
public final class RangesTest {
    private static final Check C = new Check();
    private static final int LOWEST = Integer.MIN_VALUE;
    private static final int HIGHEST = Integer.MAX_VALUE;
    private static final long LONG_NO_SUCH = -1000000001L;

    /** Heap 0 has 0 and 1, a fur; 2 has a hook. 0 goes first, lifts the fur and leaves at 13. */
    private static final String THREE = "h29;g0010;g1020;g3030;k2;";

    private interface Asked {
        long with(CoatsOnTheBed x, int v);
    }

    private interface Supply {
        CoatsOnTheBed make();
    }

    private RangesTest() {
    }

    public static void main(String[] args) {
        theRoomAsTold();
        laidAndGone();
        whatWereBest();
        ofGuestsAlone();
        readBackAndNights();
        countsAndShelves();
        placesOfRows();
        C.end();
    }

    private static CoatsOnTheBed withCoats(String text) {
        return filled(text, (CoatsOnTheBed x) -> {
            for (int d = 0; d < 8; d++) {
                x.keep(d, 1, 0, 6);
            }
        });
    }

    private static CoatsOnTheBed withBytes(String text, String bytes) {
        return filled(text, (CoatsOnTheBed x) -> {
            for (int d = 0; d < 8; d++) {
                Rooms.bytes(x, d, bytes);
            }
        });
    }

    private static CoatsOnTheBed withRows(String text, int... elements) {
        return filled(text, (CoatsOnTheBed x) -> {
            for (int d = 0; d < 8; d++) {
                Rooms.row(x, d, 2, elements);
            }
        });
    }

    private static CoatsOnTheBed filled(String text, Consumer<CoatsOnTheBed> filling) {
        CoatsOnTheBed x = Rooms.of(text);
        filling.accept(x);
        return x;
    }

    /** Refused with -1 on both sides of what is taken. */
    private static void range(String call, Supply room, Asked asked, int least, long atLeast,
            int most, long atMost) {
        C.part(call);
        taken(room, asked, least, atLeast);
        taken(room, asked, most, atMost);
        below(room, asked, least, -1);
        beyond(room, asked, most, -1);
    }

    private static void taken(Supply room, Asked asked, int v, long want) {
        C.due("with " + v + ", which is taken,", asked.with(room.make(), v), want);
    }

    private static void below(Supply room, Asked asked, int least, long refusal) {
        C.due("with the first below, " + (least - 1), asked.with(room.make(), least - 1), refusal);
        C.due("with the lowest", asked.with(room.make(), LOWEST), refusal);
    }

    private static void beyond(Supply room, Asked asked, int most, long refusal) {
        C.due("with the first beyond, " + (most + 1), asked.with(room.make(), most + 1), refusal);
        C.due("with the highest", asked.with(room.make(), HIGHEST), refusal);
    }

    private static Supply three() {
        return () -> Rooms.of(THREE);
    }

    private static void theRoomAsTold() {
        range("room(d)", () -> withBytes(THREE, "m1;b2;"), (x, d) -> x.room(d), 0, 2, 7, 2);
        range("guest(g, .)", three(), (x, g) -> x.guest(g, 0), 0, 0, 2, 3);
        range("guest(., what)", three(), (x, what) -> x.guest(1, what), 0, 1, 8, 0);
        range("comes(d, .)", () -> withCoats(THREE), (x, d) -> x.comes(d, 50), 0, 3, 7, 3);
        range("comes(., minute)", () -> withCoats(THREE), (x, minute) -> x.comes(0, minute),
                0, 3, 99, 3);
        range("the minute that came", () -> withCoats(THREE),
                (x, minute) -> x.comes(0, minute) < 0 ? -1 : x.guest(3, 2), 0, 0, 99, 99);
        range("leaves(g)", three(), (x, g) -> x.leaves(g), 0, 2, 2, 2);
        range("who is left", three(), (x, g) -> x.leaves(g) < 0 ? -1 : x.guest(1, 0), 0, 3, 2, 1);
        range("goes(g, .)", three(), (x, g) -> x.goes(g, 5), 0, 10, 2, 30);
        range("goes(., v)", three(), (x, v) -> x.goes(1, v), 0, 20, 99, 20);
        range("the minute told", three(), (x, v) -> x.goes(1, v) < 0 ? -1 : x.guest(1, 2),
                0, 0, 99, 99);
        range("hook(g)", three(), (x, g) -> x.hook(g), 0, 1, 2, 0);
        range("set(what, .)", three(), (x, what) -> x.set(what, 1), 0, 2, 3, 0);
        range("set(0, v): HEAPS 1 .. 3", three(), (x, v) -> x.set(0, v), 1, 2, 3, 2);
        range("set(1, v): HOLDS 1 .. 9", three(), (x, v) -> x.set(1, v), 1, 9, 9, 9);
        range("set(2, v): BACK 0 .. 2", three(), (x, v) -> x.set(2, v), 0, 0, 2, 0);
        range("set(3, v): MISTAKES 0, 1", three(), (x, v) -> x.set(3, v), 0, 0, 1, 0);
        range("rule(d)", () -> withBytes(THREE, "so"), (x, d) -> x.rule(d), 0, 2, 7, 2);
    }

    private static void laidAndGone() {
        range("heap(h, .)", three(), (x, h) -> x.heap(h, -1), 0, 2, 2, 0);
        C.part("heap(., i)");
        Asked heap = (x, i) -> x.heap(0, i);
        taken(three(), heap, -1, 2);
        taken(three(), heap, 0, 0);
        taken(three(), heap, 1, 1);
        taken(three(), heap, 2, -4);
        taken(three(), heap, HIGHEST, -4);
        below(three(), heap, -1, -1);
        range("above(g)", three(), (x, g) -> x.above(g), 0, 1, 2, 0);
        range("fate(g, .)", three(), (x, g) -> x.fate(g, 2), 0, 13, 2, 30);
        range("fate(., what)", three(), (x, what) -> x.fate(1, what), 0, 0, 5, 1);
        range("sums(what)", three(), (x, what) -> x.sums(what), 0, 3, 5, 0);
        range("then(gone, ., .)", three(), (x, gone) -> x.then(gone, 0, 0), 0, 0, 3, -4);
        range("then(., h, .)", three(), (x, h) -> x.then(0, h, 0), 0, 0, 2, -4);
        C.part("then(., ., i)");
        Asked then = (x, i) -> x.then(0, 0, i);
        taken(three(), then, 0, 0);
        taken(three(), then, 1, 1);
        taken(three(), then, 2, -4);
        taken(three(), then, HIGHEST, -4);
        below(three(), then, 0, -1);
        C.part("order(i)");
        Asked order = (x, i) -> x.order(i);
        taken(three(), order, 0, 0);
        taken(three(), order, 2, 2);
        taken(three(), order, 3, -4);
        taken(three(), order, HIGHEST, -4);
        below(three(), order, 0, -1);
    }

    private static void whatWereBest() {
        C.part("shown(i)");
        Asked shown = (x, i) -> x.shown(i);
        taken(three(), shown, 0, 0);
        taken(three(), shown, 2, 2);
        taken(three(), shown, 3, -4);
        taken(three(), shown, HIGHEST, -4);
        below(three(), shown, 0, -1);
        range("least(what)", three(), (x, what) -> x.least(what), 0, 0, 1, 19);
        range("backs(back)", three(), (x, back) -> x.backs(back), 0, 3, 2, 3);
        range("whom(k, .)", three(), (x, k) -> x.whom(k, 0), 0, 0, 3, 7);
        range("whom(., what)", three(), (x, what) -> x.whom(0, what), 0, 0, 1, 5);
        range("worth(k)", three(), (x, k) -> x.worth(k), 0, 0, 3, 5);
        Supply four = () -> Rooms.of("g0010;g1020;g3030;g0040;");
        range("whom(k, .) of four: 3 at most", four, (x, k) -> x.whom(k, 1), 0, 8, 3, 0);
        range("worth(k) of four: 3 at most", four, (x, k) -> x.worth(k), 0, 0, 3, 8);
        Supply two = () -> Rooms.of("g0010;g1020;");
        range("whom(k, .) of two: 2 at most", two, (x, k) -> x.whom(k, 1), 0, 3, 2, 0);
        range("worth(k) of two: 2 at most", two, (x, k) -> x.worth(k), 0, 0, 2, 3);
        Supply nobody = CoatsOnTheBed::new;
        range("whom(k, .) of nobody: 0 at most", nobody, (x, k) -> x.whom(k, 1), 0, 0, 0, 0);
        range("worth(k) of nobody: 0 at most", nobody, (x, k) -> x.worth(k), 0, 0, 0, 0);
        range("enough(v)", three(), (x, v) -> x.enough(v), 0, -4, 999, 1);
        Supply rising = () -> Rooms.of("h19;g0010;g0020;g0030;");
        range("along(g, .)", rising, (x, g) -> x.along(g, 0), 0, -4, 2, 0);
        range("along(., what)", rising, (x, what) -> x.along(2, what), 0, 0, 1, 2);
        range("turn(m)", three(), (x, m) -> x.turn(m), 0, 4, 99, 3);
        C.part("mean(part)");
        Asked mean = (x, part) -> x.mean(part);
        taken(three(), mean, 0, 3);
        taken(three(), mean, 1, 2);
        below(three(), mean, 0, LONG_NO_SUCH);
        beyond(three(), mean, 1, LONG_NO_SUCH);
        range("orders(what)", three(), (x, what) -> x.orders(what), 0, 3, 1, 0);
        range("rival(k)", three(), (x, k) -> x.rival(k), 0, 3, 5, 0);
    }

    private static void ofGuestsAlone() {
        range("whose(g)", three(), (x, g) -> x.whose(g), 0, 2, 2, 0);
        range("two(a, .)", three(), (x, a) -> x.two(a, 1), 0, 0, 2, 0);
        range("two(., b)", three(), (x, b) -> x.two(1, b), 0, 0, 2, 0);
        range("chain(g)", three(), (x, g) -> x.chain(g), 0, 1, 2, 1);
    }

    private static void readBackAndNights() {
        range("judge(d)", () -> withRows(THREE, 0, 1), (x, d) -> x.judge(d), 0, 0, 7, 0);
        range("reads(d, .)", () -> withRows(THREE, 0, 1), (x, d) -> x.reads(d, 0), 0, 3, 7, 3);
        range("reads(., what)", () -> withRows(THREE, 0, 1), (x, what) -> x.reads(0, what),
                0, 3, 1, 12);
        // sleepers go at 99 whatever is drawn: of three on one heap the first lifts 2, the next 1
        Supply sleepers = () -> Rooms.of("h19;g7000;g7000;g7000;");
        range("nights(n, ., .): 3 a night", sleepers, (x, n) -> x.nights(n, 5, 0), 1, 3, 20, 60);
        range("nights(., ., what)", sleepers, (x, what) -> x.nights(2, 5, what), 0, 6, 1, 0);
        C.part("nights(., z, .)");
        for (int z : new int[] {LOWEST, LOWEST + 1, -1, 0, 1, HIGHEST - 1, HIGHEST}) {
            taken(sleepers, (x, seed) -> x.nights(20, seed, 0), z, 60);
        }
    }

    private static void countsAndShelves() {
        range("count(what)", three(), (x, what) -> x.count(what), 0, 3, 7, 5);
        range("keep(d, ...)", three(), (x, d) -> x.keep(d, 1, 0, 0), 0, 0, 7, 0);
        range("what is kept", three(), (x, d) -> x.keep(d, 1, 1, 0) < 0 ? -1 : x.cost(d),
                0, 24, 7, 24);
        range("keep(., what, ...)", () -> withCoats(THREE), (x, what) -> x.keep(0, what, 0, 0),
                0, 0, 1, 0);
        range("keep(., ., k, .)", three(), (x, k) -> x.keep(0, 1, k, 0), 0, 0, 7, 0);
        range("the kind kept", three(), (x, k) -> x.keep(0, 1, k, 0) < 0 ? -1 : x.cost(0),
                0, 4, 7, 3);
        range("keep(., ., ., figure)", three(), (x, figure) -> x.keep(0, 1, 2, figure),
                0, 0, 9, 0);
        range("the figure kept", three(),
                (x, figure) -> x.keep(0, 1, 2, figure) < 0 ? -1 : x.cost(0), 0, 4, 9, 13);
        range("row(d, ., .)", three(), (x, d) -> x.row(d, 0, 1), 0, 0, 7, 0);
        range("row(., sort, .)", three(), (x, sort) -> x.row(0, sort, 1), 0, 0, 2, 0);
        range("the sort of the row", three(),
                (x, sort) -> x.row(0, sort, 1) < 0 ? -1 : x.put(0, 0, 70000) + x.element(0, 0),
                0, 112, 2, 70000);
        C.part("row(., ., n)");
        Asked row = (x, n) -> x.row(0, 0, n);
        taken(three(), row, 0, 0);
        taken(three(), row, 100, 0);
        below(three(), row, 0, -14);
        beyond(three(), row, 100, -1);
        C.part("the size of the row");
        Asked last = (x, n) -> x.row(0, 0, n) + x.put(0, n - 1, 7) + x.put(0, n, 7);
        taken(three(), last, 1, -13);
        taken(three(), last, 100, -13);
        range("cost(d)", () -> withCoats(THREE), (x, d) -> x.cost(d), 0, 4, 7, 4);
        range("toss(d)", () -> withCoats(THREE), (x, d) -> x.toss(d), 0, 6, 7, 6);
    }

    private static void placesOfRows() {
        Supply rows = () -> withRows(THREE, 70, 80, 90);
        range("put(d, ., .)", rows, (x, d) -> x.put(d, 0, 1), 0, 0, 7, 0);
        places("put(., i, .)", rows, (x, i) -> x.put(0, i, 1), 0, 2, 0, 0);
        C.part("put(., ., v)");
        for (int v : new int[] {LOWEST, -1, 0, 1, HIGHEST}) {
            taken(rows, (x, value) -> x.put(0, 0, value), v, 0);
            taken(rows, (x, value) -> x.put(0, 0, value) + x.element(0, 0), v, v);
        }
        range("copy(d, ...)", rows, (x, d) -> x.copy(d, 0, 3, 0, 2), 0, 2, 7, 2);
        range("copy(., ., e, ...)", rows, (x, e) -> x.copy(3, 0, e, 0, 2), 0, 2, 7, 2);
        places("copy(., i, ...)", rows, (x, i) -> x.copy(0, i, 1, 0, 1), 0, 2, 1, 1);
        places("copy(., ., ., j, .)", rows, (x, j) -> x.copy(0, 0, 1, j, 1), 0, 2, 1, 1);
        places("copy(., ., ., ., n)", rows, (x, n) -> x.copy(0, 0, 1, 0, n), 0, 3, 0, 3);
        places("copy of n from 1 on", rows, (x, n) -> x.copy(0, 1, 1, 0, n), 0, 2, 0, 2);
        places("copy of n to 1 on", rows, (x, n) -> x.copy(0, 0, 1, 1, n), 0, 2, 0, 2);
        places("copy of 2 from i", rows, (x, i) -> x.copy(0, i, 1, 0, 2), 0, 1, 2, 2);
        places("copy of 2 to j", rows, (x, j) -> x.copy(0, 0, 1, j, 2), 0, 1, 2, 2);
        places("copy of none from i", rows, (x, i) -> x.copy(0, i, 1, 0, 0), 0, 3, 0, 0);
        places("copy of none to j", rows, (x, j) -> x.copy(0, 0, 1, j, 0), 0, 3, 0, 0);
        C.part("element(d, .)");
        for (int d : new int[] {LOWEST, -1, 8, HIGHEST}) {
            taken(rows, (x, shelf) -> Rooms.thrown(x, shelf, 0), d, 1);
        }
        taken(rows, (x, d) -> x.element(d, 2), 0, 90);
        taken(rows, (x, d) -> x.element(d, 2), 7, 90);
        C.part("element(., i)");
        for (int i : new int[] {LOWEST, -1, 3, HIGHEST}) {
            taken(rows, (x, place) -> Rooms.thrown(x, 0, place), i, 2);
        }
        taken(rows, (x, i) -> x.element(0, i), 0, 70);
        taken(rows, (x, i) -> x.element(0, i), 2, 90);
    }

    /** As a range, but what is beyond it is a place that isn't there. */
    private static void places(String call, Supply room, Asked asked, int least, int most,
            long atLeast, long atMost) {
        C.part(call);
        taken(room, asked, least, atLeast);
        taken(room, asked, most, atMost);
        below(room, asked, least, -13);
        beyond(room, asked, most, -13);
    }
}
