/** Each promise by its number: what it tells, its edges, wrong inputs; answers worked out by hand. */
public final class PromisesTest {
    private static final Check C = new Check();

    private PromisesTest() {
    }

    public static void main(String[] args) {
        aNewObject();
        room();
        roomFaults();
        guest();
        comes();
        leaves();
        goes();
        hook();
        set();
        rule();
        letters();
        heap();
        above();
        fate();
        backs();
        mistakes();
        sums();
        missing();
        then();
        order();
        fewestAndShown();
        least();
        bestBack();
        whomAndWorth();
        enough();
        along();
        turns();
        allOrders();
        rivals();
        whose();
        two();
        chain();
        judge();
        reads();
        nights();
        image();
        count();
        keep();
        rows();
        copy();
        costAndToss();
        C.end();
    }

    private static void aNewObject() {
        C.part("promise 1");
        CoatsOnTheBed x = new CoatsOnTheBed();
        int[] counts = {0, 2, 9, 0, 0, 0, 0, 0};
        for (int what = 0; what < counts.length; what++) {
            C.due("count " + what, x.count(what), counts[what]);
        }
        for (int d = 0; d < 8; d++) {
            C.due("cost " + d, x.cost(d), -11);
        }
        for (int what = 0; what < 6; what++) {
            C.due("sums of nobody " + what, x.sums(what), 0);
        }
        C.due("fewest of nobody", x.fewest(), 0);
        C.due("least of nobody", x.least(0), 0);
        C.due("least digits of nobody", x.least(1), 0);
        C.due("mean of nobody", x.mean(0), 0);
        C.due("mean of nobody, below the line", x.mean(1), 1);
        C.due("orders of nobody", x.orders(0), 0);
        C.due("bestTurn of nobody", x.bestTurn(), -4);
        C.due("turn of nobody", x.turn(0), 0);
        C.due("whom of nobody", x.whom(0, 0), 0);
        C.due("whom of nobody, one hook", x.whom(1, 0), -1);
        C.due("restore", x.restore(), -3);
        x.row(0, 0, 0);
        C.due("reads of nobody", x.reads(0, 0), 1);
        C.due("reads of nobody, the first", x.reads(0, 1), 0);
    }

    private static void room() {
        C.part("promise 2");
        CoatsOnTheBed x = new CoatsOnTheBed();
        C.due("all statements", Rooms.told(x, "g1907;g4612;h35;b2;m1;k1;rsel;"), 7);
        int[] counts = {2, 3, 5, 2, 1, 2, 3, 7};
        for (int what = 0; what < counts.length; what++) {
            C.due("count " + what, x.count(what), counts[what]);
        }
        C.due("minute", x.guest(1, 2), 12);
        C.due("more of it", Rooms.told(x, "g0000;k1;r;"), 3);
        C.due("one guest more", x.count(0), 3);
        C.due("the hook told again", x.count(5), 0);
        C.due("the empty rule", x.count(6), 0);
        C.due("hook of one who comes in the same text", Rooms.told(x, "g0000;k3;"), 2);
        C.due("its bit", x.count(5), 8);
        C.due("six letters", Rooms.told(x, "rfselor;"), 1);
        C.due("six letters", x.count(6), 6);
        C.due("hook taken and given again", Rooms.told(x, "k3;k0;k1;k2;k2;k3;"), 6);
        C.due("bits", x.count(5), 11);
        C.due("d below", x.room(-1), -1);
        C.due("d above", x.room(8), -1);
        C.due("nothing", x.room(6), -11);
        x.keep(0, 1, 0, 0);
        C.due("a coat", x.room(0), -12);
        x.row(0, 1, 3);
        C.due("shorts", x.room(0), -12);
        x.row(0, 2, 3);
        C.due("ints", x.room(0), -12);
    }

    private static void roomFaults() {
        C.part("promise 2, faults");
        String tenGuests = "g0000;g0000;g0000;g0000;g0000;g0000;g0000;g0000;g0000;g0000;";
        String[] texts = {"", "x", ";", "h", "h2", "h29", "h2;", "h299;", "hx9;", "h29;;", "h29;x",
            "g0000", "g000;", "g00000;", "g-100;", "b;", "bb;", "m0", "kk;", "k10;", "r", "rf",
            "rfselor", "rfselorf;", "rf;rx;", "R;", "h40;x", "k9;h", "g 000;",
            "h09;", "h49;", "h30;", "b3;", "b9;", "m2;", "k0;", "g8000;", "g9999;",
            "b1;m2;", "b1;m1;h39;k0;", "g0000;k1;", "h11;g0000;k0;k0;k1;",
            tenGuests + "g0000;", tenGuests + "k0;k1;k2;k3;", "m2;b3;"};
        int[] faults = {-1000, -1000, -1000, -1001, -1002, -1003, -1002, -1003, -1001, -1004, -1004,
            -1005, -1004, -1005, -1001, -1001, -1001, -1002, -1001, -1002, -1001, -1002,
            -1007, -1007, -1004, -1000, -1004, -1004, -1001,
            -2000, -2000, -2000, -2000, -2000, -2000, -2000, -2000, -2000,
            -2003, -2010, -2006, -2016,
            -2060, -2069, -2000};
        C.due("as many", texts.length, faults.length);
        CoatsOnTheBed x = new CoatsOnTheBed();
        for (int i = 0; i < texts.length; i++) {
            C.due(texts[i], Rooms.told(x, texts[i]), faults[i]);
        }
        int[] counts = {0, 2, 9, 0, 0, 0, 0, 0};
        for (int what = 0; what < counts.length; what++) {
            C.due("nothing of it comes " + what, x.count(what), counts[what]);
        }
        Rooms.row(x, 0, 0, 'm', '1' + 256, ';' - 256);
        C.due("lowest bits", x.room(0), 1);
        Rooms.row(x, 0, 0, 'm', -1, ';');
        C.due("a byte below 0", x.room(0), -1001);
    }

    private static void guest() {
        C.part("promise 3");
        int[][] told = {
            {0, 9, 50, 50, 1, 0, 99}, {1, 9, 50, 50, 3, 0, 99}, {2, 9, 50, 50, 4, 0, 99},
            {2, 2, 50, 50, 1, 0, 99}, {3, 9, 50, 50, 1, 1, 99}, {4, 9, 50, 50, 5, 0, 99},
            {4, 2, 50, 50, 2, 0, 99}, {5, 9, 50, 41, 0, 0, 99}, {5, 9, 8, 0, 0, 0, 99},
            {6, 9, 50, 50, 1, 1, 9}, {6, 0, 0, 0, 1, 1, 0}, {7, 9, 50, 99, 1, 0, 99}};
        for (int[] t : told) {
            CoatsOnTheBed x = new CoatsOnTheBed();
            x.keep(0, 1, t[0], t[1]);
            x.comes(0, t[2]);
            for (int what = 0; what < t.length; what++) {
                C.due("kind " + t[0] + " what " + what, x.guest(0, what), t[what]);
            }
        }
        CoatsOnTheBed x = Rooms.of("h11;g0000;g0000;g0000;k0;");
        C.due("a hook", x.guest(0, 7), 1);
        C.due("no hook", x.guest(1, 7), 0);
        C.due("on a hook", x.guest(0, 8), 9);
        C.due("on a heap", x.guest(1, 8), 0);
        C.due("on the floor", x.guest(2, 8), -4);
        C.due("no such guest", x.guest(3, 0), -1);
        C.due("no such guest", x.guest(-1, 8), -1);
        C.due("no such what", x.guest(0, 9), -1);
        C.due("no such what", x.guest(0, -1), -1);
    }

    private static void comes() {
        C.part("promise 4");
        CoatsOnTheBed x = new CoatsOnTheBed();
        C.due("nothing", x.comes(0, 0), -11);
        C.due("no shelf", x.comes(8, 0), -1);
        C.due("no shelf", x.comes(-1, 0), -1);
        C.due("minute ahead of nothing", x.comes(0, 100), -1);
        x.row(0, 0, 1);
        C.due("a row", x.comes(0, 0), -12);
        x.keep(0, 1, 5, 3);
        C.due("minute below", x.comes(0, -1), -1);
        C.due("minute above", x.comes(0, 100), -1);
        for (int g = 0; g < 10; g++) {
            C.due("comes", x.comes(0, 99 - g), g);
        }
        C.due("no room", x.comes(0, 0), -2);
        C.due("minute ahead of no room", x.comes(0, 100), -1);
        C.due("minute told", x.guest(9, 2), 90);
        C.due("kind", x.guest(9, 0), 5);
        C.due("figure", x.guest(9, 1), 3);
        C.due("the shelf still holds it", x.cost(0), 2);
    }

    private static void leaves() {
        C.part("promise 5");
        CoatsOnTheBed x = Rooms.of("g0110;g1220;g2330;g3440;k0;k2;k3;");
        C.due("no such", x.leaves(4), -1);
        C.due("no such", x.leaves(-1), -1);
        C.due("one leaves", x.leaves(1), 3);
        C.due("kind of the next", x.guest(1, 0), 2);
        C.due("figure of the next", x.guest(1, 1), 3);
        C.due("minute of the next", x.guest(1, 2), 30);
        C.due("hooks move along", x.count(5), 7);
        C.due("the last leaves", x.leaves(2), 2);
        C.due("hooks", x.count(5), 3);
        C.due("the first leaves", x.leaves(0), 1);
        C.due("hooks", x.count(5), 1);
        C.due("nobody is left", x.leaves(0), 0);
        C.due("no hooks", x.count(5), 0);
        C.due("nobody leaves", x.leaves(0), -1);
        x.keep(0, 1, 0, 0);
        C.due("comes again", x.comes(0, 1), 0);
        C.due("without a hook", x.guest(0, 7), 0);
    }

    private static void goes() {
        C.part("promise 6");
        CoatsOnTheBed x = Rooms.of("g0110;g5320;g7000;");
        C.due("what it was", x.goes(0, 99), 10);
        C.due("what it is", x.goes(0, 0), 99);
        C.due("of a child as told", x.goes(1, 30), 20);
        C.due("less its figure", x.guest(1, 3), 27);
        C.due("of a sleeper", x.goes(2, 5), 0);
        C.due("whatever is told", x.guest(2, 3), 99);
        C.due("no such", x.goes(3, 0), -1);
        C.due("no such", x.goes(-1, 0), -1);
        C.due("no such minute", x.goes(0, 100), -1);
        C.due("no such minute", x.goes(0, -1), -1);
        C.due("as it was", x.guest(0, 2), 0);
    }

    private static void hook() {
        C.part("promise 7");
        CoatsOnTheBed x = Rooms.of("g0000;g0000;g0000;g0000;");
        C.due("no such", x.hook(4), -1);
        C.due("no such", x.hook(-1), -1);
        C.due("a hook", x.hook(3), 1);
        C.due("a hook", x.hook(1), 1);
        C.due("a hook", x.hook(0), 1);
        C.due("no hook left", x.hook(2), -2);
        C.due("bits", x.count(5), 11);
        C.due("not any more", x.hook(1), 0);
        C.due("now there is one", x.hook(2), 1);
        C.due("bits", x.count(5), 13);
    }

    private static void set() {
        C.part("promise 8");
        CoatsOnTheBed x = new CoatsOnTheBed();
        int[] first = {2, 9, 0, 0};
        int[] least = {1, 1, 0, 0};
        int[] most = {3, 9, 2, 1};
        for (int what = 0; what < 4; what++) {
            C.due("below", x.set(what, least[what] - 1), -1);
            C.due("above", x.set(what, most[what] + 1), -1);
            C.due("to the least", x.set(what, least[what]), first[what]);
            C.due("to the most", x.set(what, most[what]), least[what]);
            C.due("count", x.count(what + 1), most[what]);
        }
        C.due("no such what", x.set(4, 1), -1);
        C.due("no such what", x.set(-1, 1), -1);
    }

    private static void rule() {
        C.part("promise 9");
        CoatsOnTheBed x = new CoatsOnTheBed();
        C.due("six", Rooms.ruled(x, "rolesf"), 6);
        C.due("more than six", Rooms.ruled(x, "ffffffs"), -13);
        C.due("another letter", Rooms.ruled(x, "fx"), -13);
        C.due("a great letter", Rooms.ruled(x, "F"), -13);
        C.due("as it was", x.count(6), 6);
        C.due("none", Rooms.ruled(x, ""), 0);
        C.due("none", x.count(6), 0);
        C.due("no shelf", x.rule(8), -1);
        C.due("no shelf", x.rule(-1), -1);
        C.due("nothing", x.rule(0), -11);
        Rooms.row(x, 0, 1, 'f');
        C.due("shorts", x.rule(0), -12);
        x.keep(0, 1, 0, 0);
        C.due("a coat", x.rule(0), -12);
        x.row(0, 1, 7);
        C.due("of another sort ahead of too many", x.rule(0), -12);
    }

    /** Where each letter lays; the heaps are told from the bottom on, the floor last. */
    private static void letters() {
        C.part("laying");
        laid("without a rule", "h32;g0000;g0000;g0000;g0000;g0000;g0000;g0000;", "01|23|45|6");
        laid("f", "h32;rf;g0000;g0000;g0000;", "01|2||");
        laid("s", "h39;rs;g0000;g0000;g0000;g0000;", "03|1|2|");
        laid("e, then none", "h39;re;g0000;g0000;g0000;g0000;", "03|1|2|");
        laid("e, then s", "h29;res;g0000;g0000;g0000;g0000;", "02|13||");
        laid("e of a room of one coat each", "h21;re;g0000;g0000;g0000;", "0|1||2");
        laid("l finds none on empty ones", "h39;rlf;g0010;g0020;g0005;", "012|||");
        laid("l the latest top", "h39;g0010;rel;g0020;g0030;g0025;g0030;g0001;", "0|1|2345|");
        laid("l of several the first", "h29;rel;g0020;g0020;g0001;g0001;", "02|13||");
        laid("l not a full one", "h22;rel;g0010;g0020;g0030;g0025;", "03|12||");
        laid("o soonest of the later ones", "h39;roe;g0010;g0020;g0030;g0015;g0009;", "04|13|2|");
        laid("o not one of the same minute", "h29;roe;g0010;g0010;g0010;", "02|1||");
        laid("o of several the first", "h39;roe;g0010;g0020;g0020;g0015;", "0|13|2|");
        laid("o not a full one", "h31;roe;g0020;g0010;g0005;", "0|1|2|");
        laid("o by GOES, not by what is told", "h29;roe;g7000;g0098;", "01|||");
        laid("r round", "h39;rr;g0000;g0000;g0000;g0000;", "03|1|2|");
        laid("r behind hooks", "h39;rr;g0000;g0000;g0000;k1;", "0|2||");
        laid("r past a full one", "h22;rrf;g0000;g0000;g0000;g0000;g0000;", "02|13||4");
        laid("r the first, if none was laid on", "h39;rr;g0000;k0;g0000;", "1|||");
        laid("r back to the only one that has room", "h19;rr;g0000;g0000;", "01|||");
        laid("letters of which the later ones do not matter", "h29;rsf;g0000;g0000;", "0|1||");
        laid("one heap", "h13;rserl;g0000;g0000;g0000;g0000;", "012|||3");
    }

    private static void laid(String what, String text, String heaps) {
        CoatsOnTheBed x = Rooms.of(text);
        StringBuilder s = new StringBuilder();
        for (int h = 0; h < 3; h++) {
            for (int i = 0; i < x.heap(h, -1); i++) {
                s.append(x.heap(h, i));
            }
            s.append('|');
        }
        for (int g = 0; g < x.count(0); g++) {
            if (x.guest(g, 8) == -4) {
                s.append(g);
            }
        }
        C.holds(what + ": " + text + " laid as " + s + ", due " + heaps, heaps.contentEquals(s));
    }

    private static void heap() {
        C.part("promise 10");
        CoatsOnTheBed x = Rooms.of("h22;g0000;g0000;g0000;");
        C.due("how many", x.heap(0, -1), 2);
        C.due("the undermost", x.heap(0, 0), 0);
        C.due("the next", x.heap(0, 1), 1);
        C.due("none", x.heap(0, 2), -4);
        C.due("how many", x.heap(1, -1), 1);
        C.due("none", x.heap(1, Integer.MAX_VALUE), -4);
        C.due("a heap that is not there", x.heap(2, -1), 0);
        C.due("a heap that is not there", x.heap(2, 0), -4);
        C.due("no such", x.heap(3, 0), -1);
        C.due("no such", x.heap(-1, -1), -1);
        C.due("i below", x.heap(0, -2), -1);
    }

    private static void above() {
        C.part("promise 11");
        CoatsOnTheBed x = Rooms.of("h13;g0000;g0000;g0000;g0000;g0000;k1;");
        int[] above = {2, 0, 1, 0, 0};
        for (int g = 0; g < above.length; g++) {
            C.due("above " + g, x.above(g), above[g]);
        }
        C.due("no such", x.above(5), -1);
        C.due("no such", x.above(-1), -1);
    }

    private static void fate() {
        C.part("promise 12");
        // one heap, from the bottom 0 coat, 1 fur, 2 tweed of 3, 3 child; order 1, 0, 3, 2
        CoatsOnTheBed x = Rooms.of("h19;g0010;g1008;g2620;g5220;");
        int[][] fates = {
            {3, 11, 14, 0, 1, 0}, {3, 8, 11, 1, 0, 0}, {0, 20, 20, 2, 3, 2}, {0, 18, 18, 3, 2, 2}};
        for (int g = 0; g < fates.length; g++) {
            for (int what = 0; what < 6; what++) {
                C.due("fate " + g + " " + what, x.fate(g, what), fates[g][what]);
            }
        }
        C.due("no such", x.fate(4, 0), -1);
        C.due("no such", x.fate(-1, 0), -1);
        C.due("no such what", x.fate(0, 6), -1);
        C.due("no such what", x.fate(0, -1), -1);
        // a hook and the floor hold nobody up, and wait for nobody
        x = Rooms.of("h13;g0010;g1010;g1010;g0011;g0012;k3;");
        int[][] others = {
            {6, 10, 16, 0, 0, 0}, {3, 16, 19, 1, 1, 1}, {0, 19, 19, 2, 2, 2},
            {0, 11, 11, 3, 3, 0}, {0, 12, 12, 4, 4, 0}};
        for (int g = 0; g < others.length; g++) {
            for (int what = 0; what < 6; what++) {
                C.due("fate " + g + " " + what, x.fate(g, what), others[g][what]);
            }
        }
    }

    private static void backs() {
        C.part("promise 20, laying back");
        // the first takes the undermost of 0 1 2 3, then 3, 2, 1 go
        CoatsOnTheBed x = Rooms.of("h19;g0001;g0008;g0007;g0006;");
        C.due("as they were", x.backs(0), 3);
        C.due("turned over", x.backs(1), 5);
        C.due("beside, one heap", x.backs(2), 5);
        // beside: 3, 2, 1 come to heap 1; 3 digs 1 and 2 to heap 0 (1, 2 from the bottom); 2 is free
        x.set(0, 2);
        C.due("beside", x.backs(2), 5);
        C.due("as it is", x.count(3), 0);
        x.set(2, 2);
        C.due("moved", x.then(1, 1, 0), 3);
        C.due("moved", x.then(1, 1, 2), 1);
        C.due("moved round", x.then(2, 0, 0), 1);
        C.due("moved round", x.then(2, 0, 1), 2);
        // heaps 0 1 | 2 3 of two each: 0 puts 1 above 3
        x = Rooms.of("h22;b2;g0001;g0009;g0009;g0009;");
        C.due("holds does not matter", x.then(1, 1, 2), 1);
        // next heap's own coats lie undermost: heaps 0 2 | 1 3; 0 goes and puts 2 above 3
        x = Rooms.of("h29;rs;b2;g0001;g0005;g0009;g0003;");
        C.due("above those there", x.then(1, 1, 2), 2);
        C.due("0 lifts", x.fate(0, 0), 1);
        C.due("3 lifts", x.fate(3, 0), 1);
        C.due("onto heap 0", x.then(2, 0, 0), 2);
        C.due("all", x.sums(0), 2);
        C.due("of three the last one's next is the first",
                Rooms.of("h39;rs;b2;g0009;g0009;g0001;g0009;g0009;g0009;").then(1, 0, 2), 5);
        C.due("no such", x.backs(3), -1);
        C.due("no such", x.backs(-1), -1);
    }

    private static void mistakes() {
        C.part("mistakes");
        // 0 takes 2's black one, the first it comes to; 2 takes 0's, all that is left of black
        CoatsOnTheBed x = Rooms.of("h19;m1;g3010;g0030;g3020;g1040;");
        C.due("0 has", x.fate(0, 3), 2);
        C.due("0 lifts a fur", x.fate(0, 0), 3);
        C.due("2 has", x.fate(2, 3), 0);
        C.due("2 lifts", x.fate(2, 0), 4);
        C.due("others' coats", x.sums(2), 2);
        C.due("none", x.sums(3), 0);
        C.due("chain", x.chain(0), 2);
        C.due("chain", x.chain(1), 1);
        x.set(3, 0);
        C.due("without mistakes", x.fate(0, 3), 0);
        C.due("without mistakes", x.sums(2), 0);
        // coats that are not black are dug for, whatever lies above
        x = Rooms.of("h19;m1;g0010;g3020;g6930;");
        C.due("own", x.fate(0, 3), 0);
        C.due("lifts", x.fate(0, 0), 2);
        C.due("a train is black", x.fate(1, 3), 2);
        C.due("one on a hook takes its own", Rooms.of("h19;m1;g3010;g3020;k1;").fate(1, 3), 1);
        // 2 lies on heap 0 above 0; 0 takes it; 2 finds no black one on heap 0 but 1's on heap 1
        x = Rooms.of("h22;m1;b2;g3001;g3009;g0002;g3005;");
        C.due("0 takes the topmost black of its heap", x.fate(0, 3), 1);
        C.due("1 takes of heap 0 first", x.fate(1, 3), 0);
        x = Rooms.of("h22;m1;g0050;g3009;g3001;g3002;");
        C.due("2 takes 3's", x.fate(2, 3), 3);
        C.due("3 takes the one of heap 0, not its neighbour", x.fate(3, 3), 1);
        C.due("1 looks on heap 0, then on the next", x.fate(1, 3), 2);
        C.due("a chain of three", x.chain(1), 3);
    }

    private static void sums() {
        C.part("promise 13");
        CoatsOnTheBed x = Rooms.of("h19;m1;g6010;g1010;g3010;g6110;");
        // 0 takes 3's at once; 1 lifts 2 (10 to 11); 2 has its own; 3's was taken: it takes 0's
        int[] sums = {1, 2, 2, 0, 11, 0};
        for (int what = 0; what < sums.length; what++) {
            C.due("sums " + what, x.sums(what), sums[what]);
        }
        C.due("no such", x.sums(6), -1);
        C.due("no such", x.sums(-1), -1);
        // the last one to leave is not the last one to go
        x = Rooms.of("h19;g0010;g1011;g1011;g0012;k3;");
        C.due("the last leaves", x.sums(4), 19);
        C.due("waiting", x.sums(1), 5 + 8);
    }

    private static void missing() {
        C.part("promise 14");
        // 0 lifts 6 from 10 to 16; 1 waits 6 and lifts 3; a train of 9 leaves 9 late, of 8 misses it
        CoatsOnTheBed x = Rooms.of("h19;g6510;g6910;g1050;g1051;");
        C.due("0 lifts", x.fate(0, 0), 7);
        C.due("0 misses, 1 too", x.missing(), 3);
        C.due("how many", x.sums(5), 2);
        x.leaves(3);
        C.due("0 leaves 4 late, 1 7", x.missing(), 0);
        x = Rooms.of("h19;g6310;g1020;");
        C.due("just not late", x.missing(), 0);
        x = Rooms.of("h19;g6210;g1020;");
        C.due("just late", x.missing(), 1);
        C.due("nobody misses on a hook", Rooms.of("h19;g6010;g1010;k0;").missing(), 0);
    }

    private static void then() {
        C.part("promise 15");
        CoatsOnTheBed x = Rooms.of("h19;b1;g0010;g0020;g0030;");
        C.due("none gone", x.then(0, 0, 2), 2);
        C.due("one gone, turned", x.then(1, 0, 0), 2);
        C.due("one gone, turned", x.then(1, 0, 1), 1);
        C.due("one gone, none", x.then(1, 0, 2), -4);
        C.due("two gone", x.then(2, 0, 0), 2);
        C.due("all gone", x.then(3, 0, 0), -4);
        C.due("a heap that is not there", x.then(0, 2, 0), -4);
        C.due("gone below", x.then(-1, 0, 0), -1);
        C.due("gone above", x.then(4, 0, 0), -1);
        C.due("no such heap", x.then(0, 3, 0), -1);
        C.due("no such heap", x.then(0, -1, 0), -1);
        C.due("i below", x.then(0, 0, -1), -1);
    }

    private static void order() {
        C.part("promise 16");
        CoatsOnTheBed x = Rooms.of("g7000;g0099;g0020;g5926;g0017;g0020;");
        int[] order = {3, 4, 2, 5, 0, 1};
        for (int i = 0; i < order.length; i++) {
            C.due("order " + i, x.order(i), order[i]);
            C.due("place of " + order[i], x.fate(order[i], 4), i);
        }
        C.due("none", x.order(6), -4);
        C.due("none", x.order(Integer.MAX_VALUE), -4);
        C.due("below", x.order(-1), -1);
    }

    private static void fewestAndShown() {
        C.part("promises 17, 18");
        CoatsOnTheBed x = Rooms.of("g0050;g0010;g0060;g0020;g0055;g0030;g0005;");
        C.due("fewest: 10, 20, 30 (or 55)", x.fewest(), 3);
        C.due("shown 0", x.shown(0), 1);
        C.due("shown 1", x.shown(1), 3);
        C.due("shown 2, the first by numbers", x.shown(2), 4);
        C.due("none", x.shown(3), -4);
        C.due("below", x.shown(-1), -1);
        x = Rooms.of("g0010;g0010;g0010;k0;m1;");
        C.due("of one minute the higher number goes later; hooks aside", x.fewest(), 3);
        C.due("shown 2", x.shown(2), 2);
        C.due("falling", Rooms.of("g0030;g0020;g0010;").fewest(), 1);
        C.due("falling, the first", Rooms.of("g0030;g0020;g0010;").shown(0), 0);
        C.due("a child's coat is lifted, too", Rooms.of("g0030;g5040;").fewest(), 2);
        C.due("by GOES", Rooms.of("g0030;g5934;").fewest(), 1);
        x = Rooms.of("h11;g0000;g0000;");
        C.due("they hold any number", x.fewest(), 2);
    }

    private static void least() {
        C.part("promise 19");
        // 0 (10) must not lie beneath 1 (20) or 2 (30): heaps 0 | 1 | 2 without a lift
        CoatsOnTheBed x = Rooms.of("h39;g0010;g0020;g0030;");
        C.due("lifts", x.least(0), 0);
        C.due("digits", x.least(1), 12);
        x.set(0, 2);
        C.due("lifts on two", x.least(0), 1);
        C.due("digits on two: 0 0 1, 0 lifts 1", x.least(1), 1);
        x.set(0, 1);
        C.due("lifts on one: 2 and 1", x.least(0), 3);
        C.due("digits on one", x.least(1), 0);
        x.hook(1);
        C.due("lifts with a hook", x.least(0), 1);
        C.due("digits with a hook", x.least(1), 90);
        x.hook(0);
        C.due("digits with two", x.least(1), 990);
        x.set(1, 1);
        C.due("one coat holds", x.least(0), 0);
        x.hook(0);
        C.due("two coats, one heap of one", x.least(0), -4);
        C.due("two coats, one heap of one", x.least(1), -4);
        C.due("no such", x.least(2), -1);
        C.due("no such", x.least(-1), -1);
        x = Rooms.of("h21;g0000;g0000;g0000;g0000;g0000;g0000;");
        C.due("six", x.least(0), -4);
        Rooms.told(x, "g0000;");
        C.due("seven", x.least(0), -3);
        C.due("-1 ahead of -3", x.least(2), -1);
        C.due("holds: 2 a heap", Rooms.of("h32;g0001;g0002;g0003;g0000;g0000;").least(1), 1201);
    }

    private static void bestBack() {
        C.part("promise 21");
        CoatsOnTheBed x = Rooms.of("h19;g0001;g0008;g0007;g0006;b2;");
        C.due("as they were", x.bestBack(), 0);
        C.due("of several the least", Rooms.of("g0000;").bestBack(), 0);
        // 0 digs 1, 2, 3 which go in the order they came: turned over they lie free
        x = Rooms.of("h19;g0001;g0002;g0003;g0004;");
        C.due("as they were 3, 2, 1", x.backs(0), 6);
        C.due("turned over", x.backs(1), 3);
        C.due("best", x.bestBack(), 1);
        // 0 1 2: 1 goes first and lifts 2; beside, 2 is no longer in the way of 0
        x = Rooms.of("h29;g0005;g0001;g0009;");
        C.due("as they were", x.backs(0), 2);
        C.due("turned over", x.backs(1), 2);
        C.due("beside", x.backs(2), 1);
        C.due("best", x.bestBack(), 2);
    }

    private static void whomAndWorth() {
        C.part("promises 22, 23");
        // one heap: 0 lifts 1 and 2, 1 lifts 2
        CoatsOnTheBed x = Rooms.of("h19;g0010;g1020;g2930;k2;");
        C.due("none", x.whom(0, 0), 0);
        C.due("none: 0 lifts 7, 1 lifts 4", x.whom(0, 1), 11);
        C.due("one: the tweed", x.whom(1, 0), 4);
        C.due("one: 0 lifts a fur", x.whom(1, 1), 3);
        C.due("two: of several the least", x.whom(2, 0), 3);
        C.due("two", x.whom(2, 1), 0);
        C.due("three", x.whom(3, 0), 7);
        C.due("worth 0", x.worth(0), 0);
        C.due("worth 1", x.worth(1), 8);
        C.due("worth 2", x.worth(2), 11);
        C.due("worth 3", x.worth(3), 11);
        C.due("as it was", x.count(5), 4);
        int[] wrong = {-1, 4, Integer.MIN_VALUE, Integer.MAX_VALUE};
        for (int k : wrong) {
            C.due("k " + k, x.whom(k, 0), -1);
            C.due("k " + k, x.worth(k), -1);
        }
        C.due("what", x.whom(1, 2), -1);
        C.due("what", x.whom(1, -1), -1);
        x.leaves(0);
        C.due("more than guests", x.whom(3, 0), -1);
        C.due("more than guests", x.worth(3), -1);
        C.due("as many as guests", x.whom(2, 0), 3);
        x = Rooms.of("h11;g0010;g0020;");
        C.due("nothing to gain", x.worth(1), 0);
    }

    private static void enough() {
        C.part("promise 24");
        CoatsOnTheBed x = Rooms.of("h19;rs;g0010;g0020;g0030;");
        // one heap: 2 + 1; two: 0 2 | 1: 1; three: none
        C.due("3", x.enough(3), 1);
        C.due("2", x.enough(2), 2);
        C.due("1", x.enough(1), 2);
        C.due("0", x.enough(0), 3);
        C.due("999", x.enough(999), 1);
        x = Rooms.of("rf;g0010;g0020;g0030;");
        C.due("none", x.enough(2), -4);
        C.due("below", x.enough(-1), -1);
        C.due("above", x.enough(1000), -1);
        C.due("as it was", x.count(1), 2);
    }

    private static void along() {
        C.part("promise 25");
        // 0 1 2 of one heap: 0 goes first and lifts 2; 1 lifts 1; order 0, 1, 2
        CoatsOnTheBed x = Rooms.of("h19;g0010;g0020;g0030;");
        C.due("2 behind 0: then 1 lifts none", x.along(2, 0), 0);
        C.due("lifts", x.along(2, 1), 2);
        C.due("1 just behind 0: as now", x.along(1, 0), -4);
        C.due("nobody ahead of 0", x.along(0, 0), -4);
        C.due("nobody ahead of 0", x.along(0, 1), -4);
        C.due("as it was", x.guest(2, 2), 30);
        C.due("no such", x.along(3, 0), -1);
        C.due("no such", x.along(-1, 0), -1);
        C.due("what", x.along(0, 2), -1);
        C.due("what", x.along(0, -1), -1);
        // 0 1 2 3, a fur on top; order 0, 1, 2, 3: 5 + 4 + 3; behind 0 it is lifted once
        x = Rooms.of("h19;g0010;g0020;g0030;g1040;");
        C.due("behind 0", x.along(3, 0), 0);
        C.due("lifts 5 and 1", x.along(3, 1), 6);
        // 1, 0 go ahead of 2, with hooks: behind either of them 3 lies in nobody's way
        x = Rooms.of("h19;g0005;g0004;g0030;g1040;k0;k1;");
        C.due("of several the least", x.along(3, 0), 0);
        C.due("of several the least", x.along(3, 1), 0);
        Rooms.told(x, "g0050;");
        C.due("4 ahead of 2", x.along(4, 0), 0);
        C.due("2 lifts the fur still", x.along(4, 1), 3);
        // all laid as they are: by letter o 1 (20) lies on 0 (30), though 1 were to go later
        x = Rooms.of("h29;roe;g0030;g0010;g0020;");
        C.due("nobody lifts now", x.along(2, 0), -4);
        // in one minute: 2 goes behind 0, ahead of 1, its number no matter
        x = Rooms.of("h19;g0010;g0010;g0010;");
        C.due("one minute", x.along(2, 0), 0);
        C.due("one minute", x.along(2, 1), 2);
    }

    private static void turns() {
        C.part("promises 26, 27");
        // 0 1 2 3 of one heap, going so: 6 lifts; turned at first: 4, then all are free
        CoatsOnTheBed x = Rooms.of("h19;g0010;g0020;g0030;g0040;");
        C.due("at first", x.turn(0), 4);
        C.due("still ahead of the first", x.turn(10), 4);
        C.due("ahead of the second: 3, then 3", x.turn(11), 6);
        C.due("ahead of the second", x.turn(20), 6);
        C.due("ahead of the third: 3 + 2 + 2", x.turn(21), 7);
        C.due("ahead of the last", x.turn(40), 7);
        C.due("nobody goes then", x.turn(41), 6);
        C.due("nobody goes then", x.turn(99), 6);
        C.due("best", x.bestTurn(), 0);
        C.due("below", x.turn(-1), -1);
        C.due("above", x.turn(100), -1);
        C.due("as it was", x.sums(0), 6);
        // 0 is on top of furs: let it go first, then turn
        x = Rooms.of("h19;g0020;g0030;g0040;g0050;g0060;g1010;");
        C.due("without", x.sums(0), 10);
        C.due("at first: 8, then 5 lifts 5", x.turn(0), 13);
        C.due("behind the fur: 5", x.turn(11), 5);
        C.due("best, of several the first", x.bestTurn(), 11);
        C.due("none is better", Rooms.of("h19;g0020;g0010;").bestTurn(), -4);
        // hooks and the floor cost nothing, but they go, too
        x = Rooms.of("h12;g0020;g0030;g0010;g0005;k3;");
        C.due("0 and 1 alone are turned", x.turn(0), 2);
        C.due("two heaps", Rooms.of("h29;rs;g0010;g0010;g1020;g1020;").turn(10), 8);
    }

    private static void allOrders() {
        C.part("promises 28, 29");
        // 0 beneath a fur: 3 or none
        CoatsOnTheBed x = Rooms.of("h19;g0010;g1020;");
        C.due("mean above", x.mean(0), 3);
        C.due("mean below", x.mean(1), 2);
        C.due("worst", x.orders(0), 3);
        C.due("best", x.orders(1), 0);
        x = Rooms.of("h19;g0000;g0000;g0000;g0000;g0000;");
        C.due("five: each pair 1/2", x.mean(0), 5);
        C.due("five", x.mean(1), 1);
        C.due("worst", x.orders(0), 10);
        C.due("best", x.orders(1), 0);
        C.due("part", x.mean(2), -1000000001L);
        C.due("part", x.mean(-1), -1000000001L);
        C.due("what", x.orders(2), -1);
        C.due("what", x.orders(-1), -1);
        Rooms.told(x, "g0000;");
        C.due("six", x.mean(0), -1000000003L);
        C.due("six", x.orders(0), -3);
        C.due("six, -1 first", x.mean(2), -1000000001L);
        C.due("six, -1 first", x.orders(2), -1);
        // turned over: 0 1 2 as 0 goes first: 2 1, then 1 none or 2 one; else as they were
        x = Rooms.of("h19;b1;g0000;g0000;g0000;");
        C.due("worst", x.orders(0), 3);
        C.due("mean: 2, 3, 2, 1, 1, 0", x.mean(0), 3);
        C.due("mean: 2, 3, 2, 1, 1, 0", x.mean(1), 2);
    }

    private static void rivals() {
        C.part("promises 30, 31");
        CoatsOnTheBed x = Rooms.of("h29;rs;g0010;g0020;g0030;g0015;");
        C.due("f: 0 1 2 3, 0 lifts 3 and 1 lifts 1", x.rival(0), 4);
        C.due("s: 0 2 | 1 3", x.rival(1), 1);
        C.due("e: 0 2 3 | 1", x.rival(2), 2);
        C.due("l as f", x.rival(3), 4);
        C.due("o as f", x.rival(4), 4);
        C.due("r as s", x.rival(5), 1);
        C.due("best, the first", x.bestRule(), 1);
        C.due("the rule is as it was", x.count(6), 1);
        C.due("below", x.rival(-1), -1);
        C.due("above", x.rival(6), -1);
        C.due("all alike", Rooms.of("rs;g0000;").bestRule(), 0);
        C.due("the rule alone", Rooms.of("h29;rs;g0010;g0020;").rival(0), 1);
    }

    private static void whose() {
        C.part("promise 32");
        CoatsOnTheBed x = Rooms.of("h19;g0010;g1020;g5030;g0005;g0040;");
        C.due("a child's coat is no weight; 3 has gone", x.whose(0), 2 + 16);
        C.due("1", x.whose(1), 16);
        C.due("nobody", x.whose(4), 0);
        C.due("no such", x.whose(5), -1);
        C.due("no such", x.whose(-1), -1);
        // laid anew: without 0 or 1 there is room for 2 on heap 0, where 3 then no longer lies
        x = Rooms.of("h22;g0090;g0080;g0010;g0020;");
        C.due("2 beneath 3; without 0, 1 it lies elsewhere", x.whose(2), 1 + 2 + 8);
        x = Rooms.of("h11;g0010;g0020;");
        C.due("on the floor", x.whose(1), 0);
        x = Rooms.of("h19;g0010;g0020;k1;");
        C.due("a hook is in nobody's way", x.whose(0), 0);
    }

    private static void two() {
        C.part("promise 33");
        // 0 beneath 1: 0 goes at 10 and lifts 1 at 12, unless it goes later
        CoatsOnTheBed x = Rooms.of("h19;g0010;g0012;");
        C.due("1 goes 10 later: 0 can not go behind it", x.two(0, 1), 2);
        C.due("0 goes 5 later", x.two(1, 0), 1);
        C.due("nothing to gain", Rooms.of("h19;g0012;g0010;").two(0, 1), 0);
        C.due("1 goes 5 later", Rooms.of("h19;g0010;g0018;").two(0, 1), 1);
        C.due("later than that there is none", Rooms.of("h19;g0010;g0025;").two(0, 1), 0);
        C.due("beyond 99: behind a sleeper", Rooms.of("h19;g0096;g7000;g0000;").two(0, 2), 10);
        C.due("beyond 99: both", Rooms.of("h19;g0099;g0099;").two(0, 1), 2);
        C.due("a sleeper goes at 99, whatever", Rooms.of("h19;g7000;g0099;").two(0, 1), 0);
        C.due("as it was", x.guest(0, 2), 10);
        C.due("one twice", x.two(1, 1), -1);
        C.due("no such", x.two(2, 0), -1);
        C.due("no such", x.two(0, 2), -1);
        C.due("no such", x.two(-1, 0), -1);
        C.due("no such", x.two(0, -1), -1);
        x = Rooms.of("h29;b1;m1;rfl;g6411;g4812;g7415;g6711;g4112;");
        C.due("one of the two always chooses anew", x.two(0, 1), -4);
    }

    private static void chain() {
        C.part("promise 34");
        CoatsOnTheBed x = Rooms.of("h19;m1;g3010;g3020;g3030;g0000;");
        // 0 takes 2's; 1 takes its own (topmost then); 2 takes 0's
        C.due("0", x.chain(0), 2);
        C.due("1 its own", x.chain(1), 1);
        C.due("2", x.chain(2), 2);
        C.due("3 its own", x.chain(3), 1);
        C.due("no such", x.chain(4), -1);
        C.due("no such", x.chain(-1), -1);
    }

    private static void judge() {
        C.part("promise 35");
        CoatsOnTheBed x = Rooms.of("h22;g0000;g0000;g0000;g0000;g0000;g0000;k5;");
        // heaps 0 1 | 2 3, 4 on the floor, 5 on a hook
        judged(x, -4, 1, 3, 0, 2, 4, 5);
        judged(x, -4, 5, 4, 3, 2);
        judged(x, -4);
        judged(x, 0, 0, 1);
        judged(x, 2, 1, 0, 2);
        judged(x, 1, 4, 4);
        judged(x, 1, 5, 5);
        judged(x, 1, 1, 1);
        judged(x, 1, 3, 6);
        judged(x, 0, -1);
        judged(x, 2, 3, 1, 99);
        C.due("no shelf", x.judge(8), -1);
        C.due("no shelf", x.judge(-1), -1);
        C.due("nothing", x.judge(7), -11);
        x.keep(0, 1, 0, 0);
        C.due("a coat", x.judge(0), -12);
        Rooms.row(x, 0, 0, 257);
        C.due("lowest bits", x.judge(0), -4);
        Rooms.row(x, 0, 2, 257);
        C.due("no such guest", x.judge(0), 0);
    }

    private static void judged(CoatsOnTheBed x, int want, int... goers) {
        for (int sort = 0; sort < 3; sort++) {
            Rooms.row(x, 0, sort, goers);
            C.due("judge " + java.util.Arrays.toString(goers), x.judge(0), want);
        }
    }

    private static void reads() {
        C.part("promise 36");
        CoatsOnTheBed x = Rooms.of("h19;g0010;g0020;g0030;");
        read(x, 1, 210, 2, 1, 0);
        read(x, 0, -4, 2, 1);
        read(x, 0, -4, 2, 1, 0, 0);
        read(x, 0, -4);
        x.hook(1);
        read(x, 3, 12, 0, 2);
        x.set(1, 1);
        read(x, 3, 12, 0);
        x = Rooms.of("h29;rs;g0010;g0020;g0030;");
        read(x, 1, 12, 0, 2);
        read(x, 1, 201, 2, 1);
        read(x, 0, -4, 1);
        // o lays by GOES: 1 on 0 alone when 1 goes sooner
        x = Rooms.of("h29;roe;g0030;g0010;");
        read(x, 1, 1, 0, 1);
        read(x, 1, 10, 1);
        read(x, 0, -4, 1, 0);
        C.due("no shelf", x.reads(8, 0), -1);
        C.due("no shelf", x.reads(-1, 0), -1);
        C.due("what", x.reads(0, 2), -1);
        C.due("what ahead of nothing", x.reads(7, -1), -1);
        C.due("nothing", x.reads(7, 0), -11);
        x.keep(0, 1, 0, 0);
        C.due("a coat", x.reads(0, 0), -12);
        x = Rooms.of("h19;g0000;g0000;g0000;g0000;g0000;g0000;");
        read(x, 1, 543210, 5, 4, 3, 2, 1, 0);
        Rooms.told(x, "g0000;");
        read(x, -3, -3, 0);
        x.keep(0, 1, 0, 0);
        C.due("-12 ahead of -3", x.reads(0, 0), -12);
    }

    private static void read(CoatsOnTheBed x, int want, int first, int... heap) {
        for (int sort = 0; sort < 3; sort++) {
            Rooms.row(x, 0, sort, heap);
            String name = java.util.Arrays.toString(heap);
            C.due("how many " + name, x.reads(0, 0), want);
            C.due("the first " + name, x.reads(0, 1), first);
        }
    }

    private static void nights() {
        C.part("promise 37");
        // seed 1: z 1103527590, 2524885223 as an int, ...: the draws are looked at by one heap of two
        int z = 1;
        int want = 0;
        int late = 0;
        for (int k = 0; k < 20; k++) {
            z = z * 1103515245 + 12345;
            int first = (z & 0x7fffffff) / 65536 % 60;
            z = z * 1103515245 + 12345;
            int other = (z & 0x7fffffff) / 65536 % 60;
            want += first <= other ? 3 : 0;
            late += first <= other ? 1 : 0;
        }
        CoatsOnTheBed x = Rooms.of("h19;g6210;g1020;");
        C.due("lifts", x.nights(20, 1, 0), want);
        C.due("the train is missed as often as the fur is lifted", x.nights(20, 1, 1), late);
        C.holds("some but not all", late > 0 && late < 20);
        C.due("seed 1, the first draws are 38 and 58", x.nights(1, 1, 0), 3);
        C.due("as it was", x.guest(0, 2), 10);
        C.due("n", x.nights(0, 1, 0), -1);
        C.due("n", x.nights(21, 1, 0), -1);
        C.due("what", x.nights(1, 1, 2), -1);
        C.due("what", x.nights(1, 1, -1), -1);
        C.due("nobody", new CoatsOnTheBed().nights(20, -7, 0), 0);
    }

    private static void image() {
        C.part("promises 38, 39");
        String text = "g1907;g4612;g3533;h35;b2;m1;k1;rsel;";
        CoatsOnTheBed x = Rooms.of(text);
        C.due("no image", x.restore(), -3);
        x.keep(0, 1, 3, 3);
        C.due("image", x.image(), 3);
        String before = Rooms.all(x);
        x.goes(0, 55);
        x.leaves(1);
        x.set(0, 1);
        x.set(1, 1);
        x.set(2, 0);
        x.set(3, 0);
        Rooms.ruled(x, "f");
        x.hook(0);
        Rooms.row(x, 1, 0, 7);
        x.keep(7, 0, 0, 0);
        C.due("restored", x.restore(), 3);
        C.due("shelves stay", x.element(1, 0), 7);
        x.keep(1, 0, 0, 0);
        C.holds("all as it was", before.equals(Rooms.all(x)));
        C.due("heaps as they were", x.heap(0, 0), Rooms.of(text).heap(0, 0));
        C.due("lifts as they were", x.sums(0), Rooms.of(text).sums(0));
        x.leaves(0);
        C.due("restored again", x.restore(), 3);
        x.leaves(0);
        C.due("an image anew", x.image(), 2);
        x.leaves(0);
        C.due("restored", x.restore(), 2);
        x = new CoatsOnTheBed();
        C.due("image of nobody", x.image(), 0);
        C.due("restored nobody", x.restore(), 0);
    }

    private static void count() {
        C.part("promise 40");
        CoatsOnTheBed x = Rooms.of("g1907;g4612;g5533;h35;b2;m1;k2;k0;rsel;");
        int[] counts = {3, 3, 5, 2, 1, 5, 3, 3 + 4};
        for (int what = 0; what < counts.length; what++) {
            C.due("count " + what, x.count(what), counts[what]);
        }
        C.due("others", x.count(8), -1);
        C.due("others", x.count(-1), -1);
    }

    private static void keep() {
        C.part("promise 41");
        CoatsOnTheBed x = new CoatsOnTheBed();
        C.due("a coat", x.keep(7, 1, 7, 9), 0);
        C.due("it is held", x.cost(7), 3);
        C.due("wrong kind", x.keep(7, 1, 8, 0), -1);
        C.due("wrong kind", x.keep(7, 1, -1, 0), -1);
        C.due("wrong figure", x.keep(7, 1, 0, 10), -1);
        C.due("wrong figure", x.keep(7, 1, 0, -1), -1);
        C.due("wrong what", x.keep(7, 2, 0, 0), -1);
        C.due("wrong what", x.keep(7, -1, 0, 0), -1);
        C.due("wrong shelf", x.keep(8, 1, 0, 0), -1);
        C.due("wrong shelf", x.keep(-1, 0, 0, 0), -1);
        C.due("it is still held", x.cost(7), 3);
        C.due("nothing, whatever the kind", x.keep(7, 0, 8, 10), 0);
        C.due("nothing is held", x.cost(7), -11);
        x.row(7, 0, 3);
        C.due("in place of a row", x.keep(7, 1, 0, 0), 0);
        C.due("in place of a row", x.put(7, 0, 0), -12);
    }

    private static void rows() {
        C.part("promises 42, 43, 44");
        CoatsOnTheBed x = new CoatsOnTheBed();
        C.due("a row", x.row(0, 0, 100), 0);
        C.due("of none", x.row(1, 1, 0), 0);
        C.due("too long", x.row(0, 0, 101), -1);
        C.due("below 0", x.row(0, 0, -1), -14);
        C.due("wrong sort", x.row(0, 3, 1), -1);
        C.due("wrong sort", x.row(0, -1, 1), -1);
        C.due("wrong shelf", x.row(8, 0, 1), -1);
        C.due("wrong shelf", x.row(-1, 0, 1), -1);
        C.due("-1 ahead of -14", x.row(8, 0, -1), -1);
        C.due("-1 ahead of -14", x.row(0, 3, -1), -1);
        C.due("put", x.put(0, 99, 200), 0);
        C.due("a byte", x.element(0, 99), -56);
        C.due("no place", x.put(0, 100, 0), -13);
        C.due("no place", x.put(0, -1, 0), -13);
        C.due("no place", x.put(1, 0, 0), -13);
        C.due("nothing", x.put(2, 0, 0), -11);
        x.keep(2, 1, 0, 0);
        C.due("a coat", x.put(2, 0, 0), -12);
        C.due("no shelf", x.put(8, 0, 0), -1);
        C.due("no shelf", x.put(-1, 0, 0), -1);
        C.due("a place", Rooms.thrown(x, 0, 99), 0);
        C.due("no place", Rooms.thrown(x, 0, 100), 2);
        C.due("no place", Rooms.thrown(x, 0, -1), 2);
        C.due("a coat", Rooms.thrown(x, 2, 0), 2);
        C.due("nothing", Rooms.thrown(x, 3, 0), 2);
        C.due("no shelf", Rooms.thrown(x, 8, 0), 1);
        C.due("no shelf", Rooms.thrown(x, -1, -1), 1);
        x.row(0, 0, 100);
        C.due("0 at first", x.element(0, 99), 0);
        x.row(0, 1, 2);
        x.put(0, 0, 40000);
        x.put(0, 1, -70000);
        C.due("a short", x.element(0, 0), -25536);
        C.due("a short", x.element(0, 1), -4464);
        x.row(0, 2, 1);
        x.put(0, 0, Integer.MIN_VALUE);
        C.due("an int", x.element(0, 0), Integer.MIN_VALUE);
    }

    private static void copy() {
        C.part("promise 45");
        CoatsOnTheBed x = new CoatsOnTheBed();
        Rooms.row(x, 0, 2, 1, 2, 3, 4, 5);
        Rooms.row(x, 1, 2, 0, 0, 0);
        C.due("copy", x.copy(0, 1, 1, 1, 2), 2);
        C.due("copied", x.element(1, 0), 0);
        C.due("copied", x.element(1, 1), 2);
        C.due("copied", x.element(1, 2), 3);
        C.due("onto itself", x.copy(0, 0, 0, 1, 4), 4);
        C.due("as it was before", x.element(0, 4), 4);
        C.due("as it was before", x.element(0, 1), 1);
        C.due("onto itself, back", x.copy(0, 1, 0, 0, 4), 4);
        C.due("as it was before", x.element(0, 3), 4);
        C.due("none", x.copy(0, 5, 1, 3, 0), 0);
        C.due("beyond", x.copy(0, 5, 1, 0, 1), -13);
        C.due("beyond", x.copy(0, 6, 1, 0, 0), -13);
        C.due("beyond the other", x.copy(0, 0, 1, 0, 4), -13);
        C.due("beyond the other", x.copy(0, 0, 1, 3, 1), -13);
        C.due("below", x.copy(0, -1, 1, 0, 1), -13);
        C.due("below", x.copy(0, 0, 1, -1, 1), -13);
        C.due("a size below 0", x.copy(0, 0, 1, 0, -1), -13);
        C.due("far beyond", x.copy(0, Integer.MAX_VALUE, 1, 0, Integer.MAX_VALUE), -13);
        C.due("far below", x.copy(0, 1, 1, 1, Integer.MIN_VALUE), -13);
        C.due("no shelf", x.copy(8, 0, 1, 0, 1), -1);
        C.due("no shelf", x.copy(0, 0, -1, 0, 1), -1);
        C.due("nothing", x.copy(7, 0, 1, 0, 1), -11);
        C.due("nothing", x.copy(0, 0, 7, 0, 1), -11);
        x.keep(2, 1, 0, 0);
        C.due("nothing ahead of a coat", x.copy(2, 0, 7, 0, 1), -11);
        C.due("a coat", x.copy(2, 0, 1, 0, 1), -12);
        C.due("a coat", x.copy(0, 0, 2, 0, 1), -12);
        x.row(4, 0, 3);
        C.due("a coat is no row of bytes", x.copy(4, 0, 2, 0, 1), -12);
        C.due("a coat is no row of bytes", x.copy(2, 0, 4, 0, 0), -12);
        C.due("the whole row", x.copy(4, 0, 4, 0, 3), 3);
        x.row(3, 1, 9);
        C.due("another sort", x.copy(0, 0, 3, 0, 1), -12);
        C.due("another sort ahead of no place", x.copy(0, 9, 3, 0, 1), -12);
    }

    private static void costAndToss() {
        C.part("promises 46, 47");
        CoatsOnTheBed x = new CoatsOnTheBed();
        int[] costs = {4, 24, 11, 7, 22, 2, 14, 3};
        int[] tossed = {7, 7, 7, 107, 222, 7, 107, -15};
        for (int kind = 0; kind < 8; kind++) {
            x.keep(0, 1, kind, 7);
            C.due("cost " + kind, x.cost(0), costs[kind]);
            C.due("toss " + kind, x.toss(0), tossed[kind]);
            C.due("toss again " + kind, x.toss(0), tossed[kind]);
            x.keep(0, 1, kind, 0);
            C.due("toss of 0 " + kind, x.toss(0), -15);
        }
        C.due("no shelf", x.cost(8), -1);
        C.due("no shelf", x.toss(8), -1);
        C.due("no shelf", x.cost(-1), -1);
        C.due("no shelf", x.toss(-1), -1);
        C.due("nothing", x.cost(1), -11);
        C.due("nothing", x.toss(1), -11);
        x.row(1, 0, 0);
        C.due("a row", x.cost(1), -12);
        C.due("a row", x.toss(1), -12);
    }
}
