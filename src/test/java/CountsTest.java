/** Nothing, as many as there may be, and one too many: guests, hooks, letters, statements, rows. */
public final class CountsTest {
    private static final Check C = new Check();

    private CountsTest() {
    }

    public static void main(String[] args) {
        noGuest();
        tenGuests();
        oneGuestTooMany();
        oneGuestTooManyInText();
        hooks();
        hooksInText();
        lettersOfRule();
        lettersInText();
        statements();
        elements();
        fullHeaps();
        guestsForAllLayings();
        guestsForAllGoings();
        guestsForAllComings();
        C.end();
    }

    private static String guests(int n) {
        return "g0000;".repeat(n);
    }

    private static void noGuest() {
        C.part("no guest");
        CoatsOnTheBed x = new CoatsOnTheBed();
        x.row(0, 2, 0);
        for (int g = -1; g <= 1; g++) {
            for (int what = 0; what <= 8; what++) {
                C.due("guest", x.guest(g, what), -1);
                C.due("fate", x.fate(g, what), -1);
            }
            C.due("leaves", x.leaves(g), -1);
            C.due("goes", x.goes(g, 0), -1);
            C.due("hook", x.hook(g), -1);
            C.due("above", x.above(g), -1);
            C.due("along", x.along(g, 0), -1);
            C.due("along", x.along(g, 1), -1);
            C.due("whose", x.whose(g), -1);
            C.due("two", x.two(g, 1 - g), -1);
            C.due("chain", x.chain(g), -1);
        }
        for (int h = 0; h < 3; h++) {
            C.due("heap", x.heap(h, -1), 0);
            C.due("heap", x.heap(h, 0), -4);
            C.due("then", x.then(0, h, 0), -4);
            C.due("then, one gone", x.then(1, h, 0), -1);
        }
        for (int what = 0; what < 6; what++) {
            C.due("sums", x.sums(what), 0);
        }
        C.due("missing", x.missing(), 0);
        C.due("order", x.order(0), -4);
        C.due("fewest", x.fewest(), 0);
        C.due("shown", x.shown(0), -4);
        C.due("least", x.least(0), 0);
        C.due("least", x.least(1), 0);
        for (int back = 0; back < 3; back++) {
            C.due("backs", x.backs(back), 0);
        }
        C.due("bestBack", x.bestBack(), 0);
        C.due("whom", x.whom(0, 0), 0);
        C.due("whom", x.whom(0, 1), 0);
        C.due("worth", x.worth(0), 0);
        C.due("enough", x.enough(0), 1);
        C.due("turn", x.turn(0), 0);
        C.due("turn", x.turn(99), 0);
        C.due("bestTurn", x.bestTurn(), -4);
        C.due("mean", x.mean(0), 0);
        C.due("mean", x.mean(1), 1);
        C.due("orders", x.orders(0), 0);
        C.due("orders", x.orders(1), 0);
        for (int k = 0; k < 6; k++) {
            C.due("rival", x.rival(k), 0);
        }
        C.due("bestRule", x.bestRule(), 0);
        C.due("judge", x.judge(0), -4);
        C.due("reads", x.reads(0, 0), 1);
        C.due("reads", x.reads(0, 1), 0);
        C.due("nights", x.nights(20, 1, 0), 0);
        C.due("nights", x.nights(20, 1, 1), 0);
        C.due("image", x.image(), 0);
        C.due("restore", x.restore(), 0);
        C.due("count", x.count(7), 0);
        Rooms.row(x, 0, 2, 0);
        C.due("judge of one", x.judge(0), 0);
        C.due("reads of one", x.reads(0, 0), 0);
        C.due("reads of one", x.reads(0, 1), -4);
    }

    private static void tenGuests() {
        C.part("ten guests");
        CoatsOnTheBed x = Rooms.of("h19;" + guests(10));
        C.due("count", x.count(0), 10);
        for (int g = 0; g < 11; g++) {
            int refused = g < 10 ? 0 : -1;
            C.due("kind", x.guest(g, 0), refused);
            C.due("above", x.above(g), g < 9 ? 8 - g : refused);
            C.due("place", x.fate(g, 4), g < 10 ? g : -1);
            C.due("lifted", x.fate(g, 5), g < 9 ? g : refused);
            C.due("lifts", x.fate(g, 0), g < 9 ? 8 - g : refused);
            C.due("order", x.order(g), g < 10 ? g : -4);
            C.due("shown", x.shown(g), g < 10 ? g : -4);
            C.due("chain", x.chain(g), g < 10 ? 1 : -1);
            C.due("without any one the tenth lies there, too", x.whose(g), refused);
            C.due("gone", x.then(g, 0, 0), g < 9 ? g : -4);
        }
        C.due("eleven gone", x.then(11, 0, 0), -1);
        C.due("the heap is full", x.heap(0, -1), 9);
        C.due("the tenth coat is on the floor", x.guest(9, 8), -4);
        C.due("lifts", x.sums(0), 36);
        C.due("fewest", x.fewest(), 10);
        C.due("the last two", x.two(9, 8), 0);
        C.due("eleventh", x.two(10, 0), -1);
        C.due("eleventh", x.two(0, 10), -1);
        C.due("hook of the tenth", x.hook(9), 1);
        C.due("its bit", x.count(5), 512);
        C.due("least of ten", x.least(0), -3);
        C.due("mean of ten", x.mean(0), -1000000003L);
        C.due("orders of ten", x.orders(0), -3);
        C.due("whom, three of ten", x.whom(3, 0), 7);
        C.due("image", x.image(), 10);
        C.due("the tenth leaves", x.leaves(9), 9);
        C.due("its hook too", x.count(5), 0);
        C.due("restored", x.restore(), 10);
        C.due("restored", x.count(5), 512);
    }

    private static void oneGuestTooMany() {
        C.part("GUESTS: 10 at most");
        CoatsOnTheBed x = new CoatsOnTheBed();
        x.keep(0, 1, 1, 9);
        for (int g = 0; g < 10; g++) {
            C.due("comes", x.comes(0, g), g);
        }
        String before = Rooms.all(x);
        C.due("the eleventh", x.comes(0, 10), -2);
        C.holds("nothing changes", before.equals(Rooms.all(x)));
        C.due("one leaves", x.leaves(0), 9);
        C.due("then one more may come", x.comes(0, 10), 9);
        C.due("and no other", x.comes(0, 10), -2);
        C.due("all ten are furs", x.count(7), 30);
    }

    private static void oneGuestTooManyInText() {
        C.part("g: no room");
        CoatsOnTheBed x = new CoatsOnTheBed();
        C.due("ten", Rooms.told(x, guests(10)), 10);
        C.due("the eleventh", Rooms.told(x, "g0000;"), -2000);
        C.due("ten are there", x.count(0), 10);
        x = new CoatsOnTheBed();
        C.due("eleven at once", Rooms.told(x, guests(11)), -2060);
        C.due("nobody came", x.count(0), 0);
        C.due("nine", Rooms.told(x, guests(9)), 9);
        C.due("two more", Rooms.told(x, "b1;g0000;m1;g0000;"), -2012);
        C.due("nothing of it came", x.count(0), 9);
        C.due("nothing of it came", x.count(3), 0);
        C.due("nothing of it came", x.count(4), 0);
        C.due("the tenth", Rooms.told(x, "g0000;"), 1);
    }

    private static void hooks() {
        C.part("HOOKS: 3 at most");
        CoatsOnTheBed x = Rooms.of(guests(10));
        C.due("none at first", x.count(5), 0);
        C.due("first", x.hook(9), 1);
        C.due("second", x.hook(0), 1);
        C.due("third", x.hook(5), 1);
        int bits = 1 << 9 | 1 | 1 << 5;
        for (int g = 0; g < 10; g++) {
            if ((bits >> g & 1) == 0) {
                C.due("a fourth, " + g, x.hook(g), -2);
                C.due("nothing changes", x.count(5), bits);
            }
        }
        C.due("one of three none any more", x.hook(5), 0);
        C.due("now there is one left", x.hook(6), 1);
        C.due("and no other", x.hook(5), -2);
        C.due("one with a hook leaves", x.leaves(0), 9);
        C.due("two are left, a number less", x.count(5), 1 << 8 | 1 << 5);
        C.due("now there is one left", x.hook(0), 1);
        C.due("and no other", x.hook(1), -2);
    }

    private static void hooksInText() {
        C.part("k: no HOOK left, no such GUEST");
        CoatsOnTheBed x = Rooms.of(guests(4));
        C.due("three", Rooms.told(x, "k3;k2;k1;"), 3);
        C.due("a fourth", Rooms.told(x, "k0;"), -2000);
        C.due("a fourth, behind others", Rooms.told(x, "b2;m1;k0;"), -2006);
        C.due("three are there", x.count(5), 14);
        C.due("told again, none; then there is one", Rooms.told(x, "k3;k0;"), 2);
        C.due("bits", x.count(5), 7);
        C.due("told three times", Rooms.told(x, "k0;k0;k0;"), 3);
        C.due("bits", x.count(5), 6);
        C.due("no such guest", Rooms.told(x, "k4;"), -2000);
        C.due("no such guest", Rooms.told(x, "k0;k9;"), -2003);
        C.due("bits as they were", x.count(5), 6);
        C.due("it comes in the same text", Rooms.told(x, "g0000;k4;"), 2);
        C.due("bits", x.count(5), 22);
        C.due("it comes too late", Rooms.told(x, "k4;k5;g0000;"), -2003);
        C.due("bits as they were", x.count(5), 22);
    }

    private static void lettersOfRule() {
        C.part("RULE: 6 letters at most");
        CoatsOnTheBed x = Rooms.of("h39;" + guests(4));
        C.due("none at first", x.count(6), 0);
        String[] rules = {"", "r", "sr", "ers", "lofs", "oooos", "fselor"};
        for (int n = 0; n < rules.length; n++) {
            C.due("letters", Rooms.ruled(x, rules[n]), n);
            C.due("letters", x.count(6), n);
        }
        C.due("six", Rooms.ruled(x, "eeeees"), 6);
        C.due("one too many", Rooms.ruled(x, "ffffffs"), -13);
        C.due("a hundred", Rooms.ruled(x, "f".repeat(100)), -13);
        C.due("six as they were", x.count(6), 6);
        C.due("laid by e still", x.guest(1, 8), 1);
        C.due("laid by s at last", x.guest(3, 8), 0);
        C.due("none again", Rooms.ruled(x, ""), 0);
        C.due("laid by none", x.guest(1, 8), 0);
        C.due("the sixth letter is looked at", Rooms.ruled(x, "ooooor"), 6);
        C.due("laid by it", x.guest(1, 8), 1);
        String[] alone = {"s", "e", "r", "f", "l", "o"};
        int[] second = {1, 1, 1, 0, 0, 0};
        for (int k = 0; k < alone.length; k++) {
            C.due("one letter", Rooms.ruled(x, alone[k]), 1);
            C.due("the second by " + alone[k], x.guest(1, 8), second[k]);
        }
        for (int sign = -128; sign < 128; sign++) {
            Rooms.row(x, 7, 0, 'f', sign);
            boolean fits = sign > 0 && "fselor".indexOf(sign) >= 0;
            C.due("the letter " + sign, x.rule(7), fits ? 2 : -13);
        }
    }

    private static void lettersInText() {
        C.part("r: 0 to 6 letters");
        CoatsOnTheBed x = Rooms.of("h39;" + guests(4));
        C.due("six", Rooms.told(x, "reeeees;"), 1);
        C.due("six", x.count(6), 6);
        C.due("laid by e", x.guest(2, 8), 2);
        C.due("one too many", Rooms.told(x, "rfffffff;"), -1007);
        C.due("one too many that is none", Rooms.told(x, "rffffffx;"), -1007);
        C.due("six as they were", x.count(6), 6);
        C.due("laid by e still", x.guest(2, 8), 2);
        C.due("the last of several", Rooms.told(x, "rfse;rs;"), 2);
        C.due("one", x.count(6), 1);
        C.due("none", Rooms.told(x, "r;"), 1);
        C.due("none", x.count(6), 0);
        for (int sign = -128; sign < 128; sign++) {
            Rooms.row(x, 7, 0, 'r', sign, ';');
            boolean fits = sign > 0 && "fselor".indexOf(sign) >= 0;
            C.due("the letter " + sign, x.room(7), fits ? 1 : sign == ';' ? -1002 : -1001);
        }
    }

    private static void statements() {
        C.part("STATEMENTS: one at least");
        CoatsOnTheBed x = new CoatsOnTheBed();
        C.due("none", Rooms.told(x, ""), -1000);
        C.due("one", Rooms.told(x, "m0;"), 1);
        C.due("two", Rooms.told(x, "m0;r;"), 2);
        C.due("as many as a row has room for", Rooms.told(x, "r;".repeat(50)), 50);
        C.due("the last of them lacks its end", Rooms.told(x, "r;".repeat(49) + "rf"), -1100);
        C.due("the last byte is none", Rooms.told(x, "m1;".repeat(33) + ";"), -1099);
        C.due("the last byte begins one", Rooms.told(x, "m1;".repeat(33) + "r"), -1100);
        C.due("the last statement is wrong", Rooms.told(x, "m1;".repeat(32) + "h20;"), -2096);
        C.due("a hundred bytes", Rooms.told(x, "m1;".repeat(32) + "h24;"), 33);
        C.due("all of it came", x.count(2), 4);
        C.due("all of it came", x.count(4), 1);
        for (int sign = -128; sign < 128; sign++) {
            Rooms.row(x, 7, 0, sign);
            boolean begins = sign > 0 && "ghbmkr".indexOf(sign) >= 0;
            C.due("the letter " + sign, x.room(7), begins ? -1001 : -1000);
        }
    }

    private static void elements() {
        C.part("ROW: 0 .. 100 elements, 0 at first");
        CoatsOnTheBed x = new CoatsOnTheBed();
        for (int sort = 0; sort < 3; sort++) {
            C.due("none", x.row(0, sort, 0), 0);
            C.due("no place", x.put(0, 0, 1), -13);
            C.due("no place", Rooms.thrown(x, 0, 0), 2);
            C.due("nothing to copy", x.copy(0, 0, 0, 0, 0), 0);
            C.due("nothing to copy", x.copy(0, 0, 0, 0, 1), -13);
            C.due("a hundred", x.row(0, sort, 100), 0);
            for (int i = 0; i < 100; i++) {
                C.due("0 at first", x.element(0, i), 0);
                C.due("put", x.put(0, i, i + 1), 0);
            }
            C.due("no place", x.put(0, 100, 1), -13);
            C.due("no place", Rooms.thrown(x, 0, 100), 2);
            C.due("one too many", x.row(0, sort, 101), -1);
            C.due("fewer than none", x.row(0, sort, -1), -14);
            for (int i = 0; i < 100; i++) {
                C.due("as it was", x.element(0, i), i + 1);
            }
            C.due("again", x.row(0, sort, 100), 0);
            for (int i = 0; i < 100; i++) {
                C.due("0 again", x.element(0, i), 0);
            }
        }
        x.row(1, 2, 100);
        Rooms.row(x, 0, 2, new int[100]);
        x.put(0, 99, 5);
        C.due("all hundred", x.copy(0, 0, 1, 0, 100), 100);
        C.due("the last", x.element(1, 99), 5);
        C.due("one too many", x.copy(0, 0, 1, 0, 101), -13);
        C.due("the row shrinks", x.row(0, 2, 99), 0);
        C.due("the hundredth is there no more", Rooms.thrown(x, 0, 99), 2);
        C.due("nor for a copy", x.copy(1, 0, 0, 0, 100), -13);
    }

    private static void fullHeaps() {
        C.part("HOLDS, the floor");
        for (int heaps = 1; heaps <= 3; heaps++) {
            for (int holds = 1; holds <= 9; holds++) {
                CoatsOnTheBed x = Rooms.of("h" + heaps + holds + ";" + guests(10));
                for (int h = 0; h < 3; h++) {
                    int room = h < heaps ? holds : 0;
                    int lie = Math.max(0, Math.min(room, 10 - h * holds));
                    C.due("heap " + h + " of " + heaps + holds, x.heap(h, -1), lie);
                }
                for (int g = 0; g < 10; g++) {
                    int h = g / holds;
                    C.due("guest " + g + " of " + heaps + holds, x.guest(g, 8), h < heaps ? h : -4);
                }
            }
        }
        CoatsOnTheBed x = Rooms.of("h11;" + guests(3));
        C.due("nobody lifts anything for the floor", x.sums(0), 0);
        C.due("nothing for it", x.above(0), 0);
        C.due("nothing for it", x.above(2), 0);
        C.due("one with a hook takes no place", x.hook(0), 1);
        C.due("so another one lies there", x.guest(1, 8), 0);
        C.due("and the third still on the floor", x.guest(2, 8), -4);
    }

    private static void guestsForAllLayings() {
        C.part("LEAST: 6 GUESTS at most");
        CoatsOnTheBed x = Rooms.of("h11;" + guests(1));
        C.due("one", x.least(0), 0);
        C.due("one", x.least(1), 0);
        Rooms.told(x, guests(1));
        C.due("two, one heap of one: none", x.least(0), -4);
        C.due("two, one heap of one: none", x.least(1), -4);
        Rooms.told(x, "h16;" + guests(4));
        C.due("six, one heap of six", x.least(0), 15);
        C.due("six, one heap of six", x.least(1), 0);
        C.due("six, one heap of five", x.set(1, 5), 6);
        C.due("none", x.least(0), -4);
        C.due("six, two of three", Rooms.told(x, "h23;"), 1);
        C.due("3 and 3", x.least(0), 6);
        C.due("the first by digits", x.least(1), 111);
        C.due("six, three of one", Rooms.told(x, "h31;"), 1);
        C.due("none", x.least(1), -4);
        C.due("three hooks", Rooms.told(x, "k0;k1;k5;"), 3);
        C.due("each on its own", x.least(0), 0);
        C.due("digits", x.least(1), 990129);
        C.due("the seventh", Rooms.told(x, guests(1)), 1);
        C.due("seven", x.least(0), -3);
        C.due("seven", x.least(1), -3);
        C.due("six again", x.leaves(6), 6);
        C.due("six", x.least(1), 990129);
    }

    private static void guestsForAllGoings() {
        C.part("ALL ORDERS: 5 GUESTS at most");
        int[] above = {0, 0, 1, 3, 3, 5};
        int[] below = {1, 1, 2, 2, 1, 1};
        int[] worst = {0, 0, 1, 3, 6, 10};
        CoatsOnTheBed x = new CoatsOnTheBed();
        for (int n = 0; n <= 5; n++) {
            C.due("mean of " + n, x.mean(0), above[n]);
            C.due("mean of " + n, x.mean(1), below[n]);
            C.due("worst of " + n, x.orders(0), worst[n]);
            C.due("best of " + n, x.orders(1), 0);
            Rooms.told(x, guests(1));
        }
        C.due("six", x.count(0), 6);
        C.due("mean of six", x.mean(0), -1000000003L);
        C.due("mean of six", x.mean(1), -1000000003L);
        C.due("worst of six", x.orders(0), -3);
        C.due("best of six", x.orders(1), -3);
        C.due("one leaves", x.leaves(5), 5);
        C.due("mean of five again", x.mean(0), 5);
    }

    private static void guestsForAllComings() {
        C.part("READ BACK: 6 GUESTS at most");
        CoatsOnTheBed x = Rooms.of("h11;" + guests(6));
        int[] orders = {1, 2, 6, 24, 120};
        for (int n = 2; n <= 6; n++) {
            CoatsOnTheBed y = Rooms.of("h11;" + guests(n));
            Rooms.row(y, 0, 2, n - 1);
            C.due("the first who comes lies there, of " + n, y.reads(0, 0), orders[n - 2]);
        }
        Rooms.row(x, 0, 2, 5);
        C.due("six", x.reads(0, 0), 120);
        C.due("six", x.reads(0, 1), 501234);
        C.due("the seventh", Rooms.told(x, guests(1)), 1);
        C.due("seven", x.reads(0, 0), -3);
        C.due("seven", x.reads(0, 1), -3);
        C.due("six again", x.leaves(6), 6);
        C.due("six", x.reads(0, 0), 120);
    }
}
