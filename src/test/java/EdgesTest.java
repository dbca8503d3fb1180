import java.math.BigInteger;

/**
 * The sentences of the document that name a boundary, each with the answers on both of its sides.
 * A part's name is the sentence, or the words of it that name the boundary.
 */
public final class EdgesTest {
    private static final Check C = new Check();

    private EdgesTest() {
    }

    public static void main(String[] args) {
        kinds();
        childrenGo();
        sleepersGo();
        lifts();
        trainsMiss();
        othersMiss();
        laying();
        fullAndRound();
        goingOfSeveral();
        beginning();
        layingBack();
        layingBackBeside();
        mistakes();
        hooksAndFloor();
        texts();
        heapsAndAbove();
        lifted();
        thenSoManyHaveGone();
        fewest();
        shown();
        least();
        backs();
        whomAndWorth();
        enough();
        along();
        turn();
        bestTurn();
        allOrders();
        rules();
        whose();
        two();
        chain();
        judged();
        readBack();
        seeds();
        lowestBits();
        copies();
        shelves();
        image();
        failures();
        fiveHundredCalls();
        C.end();
    }

    private static CoatsOnTheBed one(int kind, int figure, int minute) {
        CoatsOnTheBed x = new CoatsOnTheBed();
        x.keep(0, 1, kind, figure);
        x.comes(0, minute);
        return x;
    }

    private static void kinds() {
        C.part("GOES, BLACK, SPARE: others as what they are under");
        for (int kind = 0; kind < 8; kind++) {
            for (int figure = 0; figure < 10; figure++) {
                CoatsOnTheBed x = one(kind, figure, 50);
                C.due("KIND", x.guest(0, 0), kind);
                C.due("FIGURE", x.guest(0, 1), figure);
                C.due("MINUTE", x.guest(0, 2), 50);
                int goes = kind == 5 ? 50 - figure : kind == 7 ? 99 : 50;
                C.due("GOES " + kind + figure, x.guest(0, 3), goes);
                C.due("BLACK " + kind, x.guest(0, 5), kind == 3 || kind == 6 ? 1 : 0);
                C.due("SPARE " + kind + figure, x.guest(0, 6), kind == 6 ? figure : 99);
            }
        }
    }

    private static void childrenGo() {
        C.part("CHILD FIGURE less, 0 at least");
        for (int figure = 0; figure < 10; figure++) {
            C.due("told the FIGURE", one(5, figure, figure).guest(0, 3), 0);
            C.due("told one more", one(5, figure, figure + 1).guest(0, 3), 1);
            C.due("told 99", one(5, figure, 99).guest(0, 3), 99 - figure);
            C.due("told 0", one(5, figure, 0).guest(0, 3), 0);
            C.due("as told", one(5, figure, 0).guest(0, 2), 0);
        }
        C.due("told one less than the FIGURE", one(5, 9, 8).guest(0, 3), 0);
        CoatsOnTheBed x = one(5, 9, 8);
        C.due("what was told", x.goes(0, 9), 8);
        C.due("GOES", x.guest(0, 3), 0);
        C.due("what was told", x.goes(0, 10), 9);
        C.due("GOES", x.guest(0, 3), 1);
    }

    private static void sleepersGo() {
        C.part("SLEEPER 99, whatever is told");
        for (int minute = 0; minute < 100; minute++) {
            C.due("told " + minute, one(7, minute % 10, minute).guest(0, 3), 99);
            C.due("as told", one(7, minute % 10, minute).guest(0, 2), minute);
        }
    }

    private static void lifts() {
        C.part("TWEED a third of FIGURE, cut, more; SCARF 1 more; CHILD half of a COAT's, cut");
        int[] thirds = {0, 0, 0, 1, 1, 1, 2, 2, 2, 3};
        for (int figure = 0; figure < 10; figure++) {
            int[] lift = {1, 3, 1 + thirds[figure], 1, 2 + thirds[figure], 0, 1, 1};
            for (int kind = 0; kind < 8; kind++) {
                CoatsOnTheBed x = one(kind, figure, 50);
                C.due("LIFT " + kind + figure, x.guest(0, 4), lift[kind]);
                C.due("all LIFT " + kind + figure, x.count(7), lift[kind]);
                Rooms.told(x, "h19;g0060;g" + kind + figure + "99;");
                C.due("lifted by one beneath " + kind + figure, x.fate(1, 0), lift[kind]);
            }
        }
    }

    /** Coats above the first, which lift as much as told together. */
    private static String above(int weight) {
        return "g1099;".repeat(weight / 3) + "g0099;".repeat(weight % 3);
    }

    private static void trainsMiss() {
        C.part("MISS (leave later than GOES and SPARE): TRAIN FIGURE");
        for (int figure = 0; figure < 10; figure++) {
            String train = "h19;g6" + figure + "30;";
            CoatsOnTheBed x = Rooms.of(train + above(figure));
            C.due("leaves " + figure + " later", x.fate(0, 2), 30 + figure);
            C.due("just in time", x.missing(), 0);
            C.due("just in time", x.sums(5), 0);
            x = Rooms.of(train + above(figure + 1));
            C.due("leaves " + (figure + 1) + " later", x.fate(0, 2), 31 + figure);
            C.due("just missed", x.missing(), 1);
            C.due("just missed", x.sums(5), 1);
        }
    }

    private static void othersMiss() {
        C.part("MISS: SPARE 99");
        // 0 lifts 1 + 4 + 30, 1 lifts 4 + 30, 2 lifts 30: it leaves at 99, those behind it later
        CoatsOnTheBed x = Rooms.of("h19;g0000;g0000;g2900;" + "g4900;".repeat(6));
        C.due("leaves at 99", x.fate(2, 2), 99);
        C.due("not missed by 2", x.missing(), 0x1f8);
        C.due("how many", x.sums(5), 6);
        C.due("the last one leaves beyond 99", x.sums(4), 174);
        C.due("the last one to go begins then", x.fate(8, 1), 174);
        x = Rooms.of("h19;g0000;g2300;g2900;" + "g4900;".repeat(6));
        C.due("leaves at 100", x.fate(2, 2), 100);
        C.due("missed by 2", x.missing(), 0x1fc);
        C.due("how many", x.sums(5), 7);
    }

    private static void laying() {
        C.part("letters that find none, ties, and not a minute later");
        laid("e finds none: the next letter", "h29;res;g0000;g0000;g0000;g0000;", "02|13||");
        laid("l finds none as none lies", "h29;rlr;g0000;g0000;", "01|||");
        laid("o finds none as none lies", "h29;ror;g0000;g0000;", "0|1||");
        laid("none finds one for the last: the first",
                "h39;rooooee;g0000;g0000;g0000;g0000;", "03|1|2|");
        laid("six that find none", "h39;roooooo;g0000;g0000;", "01|||");
        laid("s of several the first", "h39;rs;g0000;g0000;g0000;g0000;g0000;", "03|14|2|");
        laid("l of several the first", "h39;rel;g0050;g0050;g0050;g0001;", "03|1|2|");
        laid("l a minute later", "h39;rel;g0050;g0050;g0051;g0001;", "0|1|23|");
        laid("l a minute sooner", "h39;rel;g0051;g0050;g0050;g0001;", "03|1|2|");
        laid("o in the same minute is not later", "h29;roe;g0050;g0050;", "0|1||");
        laid("o a minute later", "h29;roe;g0051;g0050;", "01|||");
        laid("o a minute sooner", "h29;roe;g0049;g0050;", "0|1||");
        laid("o of several the first", "h39;roe;g0060;g0060;g0060;g0050;", "03|1|2|");
        laid("o the soonest of the later ones", "h39;roe;g0060;g0061;g0062;g0060;", "0|13|2|");
        laid("o the soonest, though it is the last", "h39;reo;g0090;g0080;g0070;g0060;", "0|1|23|");
        laid("o of the soonest the first", "h39;reo;g0090;g0080;g0080;g0060;", "0|13|2|");
        laid("o at the least minutes", "h29;roe;g0001;g0000;", "01|||");
        laid("o at the last minutes", "h29;roe;g0098;g7000;", "0|1||");
    }

    private static void fullAndRound() {
        C.part("of HEAPS that do not HOLD as many as they may; round");
        laid("f not a full one", "h32;rf;" + "g0000;".repeat(7), "01|23|45|6");
        laid("s not a full one", "h21;rs;g0000;g0000;g0000;", "0|1||2");
        laid("e: one that holds one", "h31;re;g0000;g0000;g0000;g0000;", "0|1|2|3");
        laid("l not a full one, though latest", "h22;rel;g0090;g0010;g0001;g0001;", "02|13||");
        laid("l the full ones alone are left: the first that is not", "h21;rl;g0000;g0000;",
                "0|1||");
        laid("o not a full one, though it fits", "h22;roe;g0090;g0080;g0070;", "01|2||");
        laid("r the first, if none was", "h39;rr;g0000;", "0|||");
        laid("r behind the one laid on latest", "h39;rr;g0000;g0000;", "0|1||");
        laid("r behind the last one the first", "h39;rr;" + "g0000;".repeat(4), "03|1|2|");
        laid("r of two", "h29;rr;" + "g0000;".repeat(3), "02|1||");
        laid("r of one", "h19;rr;" + "g0000;".repeat(3), "012|||");
        laid("r past one that is full", "h22;rr;" + "g0000;".repeat(5), "02|13||4");
        // by o 0 1 2 come to heap 0, which is full then; r is tried by 3, 4, 5 alone
        laid("r round past a full one", "h33;ror;g0090;g0080;g0070;g0095;g0095;g0095;",
                "012|35|4|");
        laid("r round to the one laid on latest itself", "h22;ror;g0090;g0080;g0095;g0095;",
                "01|23||");
        laid("a hook is not laid on", "h39;rr;g0000;g0000;g0000;k1;", "0|2||");
        laid("the first, if hooks alone were", "h39;rr;g0000;g0000;k0;", "1|||");
        laid("all are full: the floor, whatever the letters", "h21;rfselor;" + "g0000;".repeat(4),
                "0|1||23");
    }

    private static void laid(String what, String text, String heaps) {
        CoatsOnTheBed x = Rooms.of(text);
        StringBuilder s = new StringBuilder();
        for (int h = 0; h < 3; h++) {
            for (int i = 0; i < x.heap(h, -1); i++) {
                s.append(x.heap(h, i));
                C.due("its HEAP", x.guest(x.heap(h, i), 8), h);
            }
            s.append('|');
        }
        for (int g = 0; g < x.count(0); g++) {
            if (x.guest(g, 8) == -4) {
                s.append(g);
            }
        }
        C.holds(what + ": " + text + " laid as " + s + ", due " + heaps, heaps.contentEquals(s));
    }

    private static void goingOfSeveral() {
        C.part("all go, by GOES, of several by numbers");
        CoatsOnTheBed x = Rooms.of("g0099;g7000;g0000;g5909;g0098;g0000;g5908;");
        int[] order = {2, 3, 5, 6, 4, 0, 1};
        for (int i = 0; i < order.length; i++) {
            C.due("order " + i, x.order(i), order[i]);
            C.due("place " + order[i], x.fate(order[i], 4), i);
        }
    }

    private static void beginning() {
        C.part("DIGGING begins as it GOES or as the one ahead has done, whichever is later");
        int[] goes = {10, 11, 12, 13, 14};
        int[] begins = {13, 13, 13, 13, 14};
        for (int i = 0; i < goes.length; i++) {
            // 0 lifts the fur of 1 from 10 to 13; 2 lies on heap 1, with a coat above
            CoatsOnTheBed x = Rooms.of("h22;g0010;g1090;g00" + goes[i] + ";g0091;");
            C.due("GOES " + goes[i], x.fate(2, 1), begins[i]);
            C.due("leaves", x.fate(2, 2), begins[i] + 1);
            C.due("all the waiting", x.sums(1), begins[i] - goes[i]);
        }
        CoatsOnTheBed late = Rooms.of("h22;g0011;g0090;g0010;g1091;");
        C.due("0 waits for 2", late.sums(1), 2);
        C.due("0 leaves last", Rooms.of("h19;g0011;g0010;").sums(4), 11);
        CoatsOnTheBed x = Rooms.of("h19;g0010;g0020;");
        C.due("nobody ahead", x.fate(0, 1), 10);
        C.due("leaves as it has lifted", x.fate(0, 2), 11);
        C.due("lifts nothing: leaves as it begins", x.fate(1, 2), 20);
        // 0 digs till 13, 2 lifts nothing and holds 3 up no longer than 0 does
        x = Rooms.of("h22;g0010;g1090;g0012;g0011;");
        C.due("3 begins as 0 has done, and lifts nothing", x.fate(3, 1), 13);
        C.due("2 begins as 3 has done", x.fate(2, 1), 13);
        x = Rooms.of("h19;g0050;g5999;");
        C.due("a child's coat is lifted in no time", x.fate(0, 2), 50);
        C.due("but it is lifted", x.fate(1, 5), 1);
    }

    private static void layingBack() {
        C.part("BACK 0: they lie again as they were; 1: the topmost is undermost of them");
        for (int back = 0; back < 3; back++) {
            CoatsOnTheBed x = Rooms.of("h19;b" + back + ";g0050;g0040;g0090;g0091;g0092;");
            // 1 goes first: 2 3 4 lie above it, 0 beneath
            int[] want = back == 0 ? new int[] {0, 2, 3, 4} : new int[] {0, 4, 3, 2};
            for (int i = 0; i < want.length; i++) {
                C.due("BACK " + back + " (one HEAP: 2 as 1)", x.then(1, 0, i), want[i]);
            }
            C.due("no more", x.then(1, 0, 4), -4);
            x = Rooms.of("h19;b" + back + ";g0050;g0040;g0090;");
            C.due("of one, BACK " + back, x.then(1, 0, 1), 2);
            x = Rooms.of("h19;b" + back + ";g0050;g0040;");
            C.due("of none, BACK " + back, x.then(1, 0, 0), 0);
            C.due("of none, BACK " + back, x.then(1, 0, 1), -4);
        }
    }

    private static void layingBackBeside() {
        C.part("2: one by one, the topmost first, onto the top of the next HEAP (round)");
        for (int h = 0; h < 3; h++) {
            // heaps 0 3 | 1 4 | 2 5; the undermost of heap h goes first
            String ahead = "g0009;".repeat(h);
            CoatsOnTheBed x = Rooms.of("h39;rr;b2;" + ahead + "g0001;" + "g0009;".repeat(5 - h));
            int next = (h + 1) % 3;
            C.due("from " + h + " to " + next, x.then(1, next, 2), h + 3);
            C.due("nothing is left", x.then(1, h, 0), -4);
        }
        CoatsOnTheBed x = Rooms.of("h29;rr;b2;g0009;g0001;g0009;g0009;");
        C.due("of two the last one's next is the first", x.then(1, 0, 2), 3);
        C.due("not a third", x.then(1, 2, 0), -4);
        x = Rooms.of("h29;b2;g0001;g0009;g0009;");
        C.due("the topmost first", x.then(1, 1, 0), 2);
        C.due("the topmost first", x.then(1, 1, 1), 1);
        C.part("HOLDS does not matter");
        x = Rooms.of("h29;b2;g0001;" + "g0009;".repeat(9));
        C.due("nine and one", x.heap(0, -1), 9);
        C.due("the one that lay there", x.then(1, 1, 0), 9);
        for (int i = 1; i < 9; i++) {
            C.due("eight more", x.then(1, 1, i), 9 - i);
        }
        C.due("no more", x.then(1, 1, 9), -4);
        C.due("none is left", x.then(1, 0, 0), -4);
        x = Rooms.of("h31;b2;g0001;g0009;g0009;");
        C.due("nothing above, nothing moves", x.then(1, 1, 1), -4);
    }

    private static void mistakes() {
        C.part("takes the first BLACK one it comes to");
        CoatsOnTheBed x = Rooms.of("h19;m1;g3010;g3020;");
        C.due("the topmost", x.fate(0, 3), 1);
        C.due("lifts nothing", x.fate(0, 0), 0);
        C.due("without MISTAKES its own", Rooms.of("h19;g3010;g3020;").fate(0, 3), 0);
        C.due("without MISTAKES it lifts", Rooms.of("h19;g3010;g3020;").fate(0, 0), 1);
        x = Rooms.of("h19;m1;g3020;g3010;");
        C.due("its own, if that is the first", x.fate(1, 3), 1);
        C.due("the other its own", x.fate(0, 3), 0);
        C.due("one who is not BLACK digs for its own", Rooms.of("h19;m1;g0010;g3020;").fate(0, 3), 0);
        C.due("one BLACK takes no other", Rooms.of("h19;m1;g3010;g0020;").fate(0, 3), 0);
        C.due("BLACK ones of other HEAPS do not matter",
                Rooms.of("h22;m1;g3010;g0090;g3091;").fate(0, 3), 0);
        C.part("takes the topmost BLACK one of HEAP 0, or of the next ones (lifting what lies above)");
        // 0 1 2 | 3 4 5 | 6 7 8 (a fur): 6 takes 7's, then 7 finds one on the last heap alone
        x = Rooms.of("h33;m1;" + "g0009;".repeat(6) + "g3001;g3002;g1009;");
        C.due("6 has 7's", x.fate(6, 3), 7);
        C.due("6 lifts the fur", x.fate(6, 0), 3);
        C.due("7 has 6's, of HEAP 2", x.fate(7, 3), 6);
        C.due("7 lifts the fur, too", x.fate(7, 0), 3);
        C.due("the fur was lifted twice", x.fate(8, 5), 2);
        // 0, 1 coats, 2 black | 3 black, 4 black, 5 coat: 3 takes 4's, 4 then that of HEAP 0
        x = Rooms.of("h23;m1;g0090;g0090;g3050;g3001;g3002;g0090;");
        C.due("3 has 4's", x.fate(3, 3), 4);
        C.due("4 has 2's, of HEAP 0", x.fate(4, 3), 2);
        C.due("2 has 3's, of HEAP 1", x.fate(2, 3), 3);
        C.due("2 lifts what lies above", x.fate(2, 0), 1);
        C.due("others' coats", x.sums(2), 3);
        // of two on HEAP 0 the topmost
        x = Rooms.of("h23;m1;g3050;g3060;g0090;g3001;g3002;");
        C.due("the topmost of HEAP 0", x.fate(4, 3), 1);
        C.due("lifts the coat above", x.fate(4, 0), 1);
        // it is laid back beside the heap that was dug, not beside the own one
        x = Rooms.of("h33;m1;b2;g3050;g3060;g0090;g3001;g3002;");
        C.due("beside HEAP 0", x.then(2, 1, 1), 2);
    }

    private static void hooksAndFloor() {
        C.part("A coat on a HOOK, on the floor, is taken by its own GUEST as it GOES");
        // 0 digs for 8 minutes; 3 hangs, 4 is on the floor
        CoatsOnTheBed x = Rooms.of("h13;m1;g3010;g2990;g2991;g3010;g3011;k3;");
        for (int g = 3; g <= 4; g++) {
            C.due("lifts nothing", x.fate(g, 0), 0);
            C.due("begins as it GOES", x.fate(g, 1), g + 7);
            C.due("leaves then", x.fate(g, 2), g + 7);
            C.due("its own, though BLACK", x.fate(g, 3), g);
            C.due("never lifted", x.fate(g, 5), 0);
            C.due("nothing above", x.above(g), 0);
        }
        C.due("nobody has theirs", x.fate(0, 3), 0);
        C.due("holds nobody up", x.fate(0, 1), 10);
        x = Rooms.of("h11;g0010;g0010;");
        C.due("on the floor", x.guest(1, 8), -4);
        C.due("a HOOK in place of the floor", x.hook(1), 1);
        C.due("on a HOOK", x.guest(1, 8), 9);
    }

    private static void texts() {
        C.part("THE TEXT: a digit each, 2 digits, the least and the most");
        CoatsOnTheBed x = new CoatsOnTheBed();
        String[] fine = {"g0000;", "g7999;", "h11;", "h39;", "b0;", "b2;", "m0;", "m1;", "k0;", "r;"};
        for (String text : fine) {
            C.due(text, Rooms.told(x, text), 1);
        }
        C.due("MINUTE 99", x.guest(1, 2), 99);
        C.due("FIGURE 9", x.guest(1, 1), 9);
        String[] beyond = {"g8000;", "g9000;", "h01;", "h41;", "h91;", "h10;", "b3;", "b9;", "m2;",
            "m9;", "k2;", "k9;"};
        x.keep(7, 0, 0, 0);
        String before = Rooms.all(x);
        for (String text : beyond) {
            C.due(text, Rooms.told(x, text), -2000);
            C.due("behind another " + text, Rooms.told(x, "b1;" + text), -2003);
        }
        C.part("the place of the first byte with which no ROOM can go on (the end, if something lacks)");
        String[] whole = {"g0000;", "h22;", "b0;", "m0;", "k0;", "rfselor;"};
        for (String text : whole) {
            for (int n = 0; n < text.length(); n++) {
                C.due("only " + n + " of " + text, Rooms.told(x, text.substring(0, n)), -1000 - n);
                String wrong = text.substring(0, n) + "x" + text.substring(n + 1);
                C.due(wrong, Rooms.told(x, wrong), -1000 - n);
                C.due("b1;" + wrong, Rooms.told(x, "b1;" + wrong), -1003 - n);
            }
            String more = text.substring(0, text.length() - 1) + "0;";
            C.due(more, Rooms.told(x, more), -1000 - text.length() + 1);
            C.due(text + ";", Rooms.told(x, text + ";"), -1000 - text.length());
        }
        for (char sign : new char[] {'/', ':', ' ', '-', '+'}) {
            C.due("no digit " + sign, Rooms.told(x, "b" + sign + ";"), -1001);
            C.due("no digit " + sign, Rooms.told(x, "g000" + sign + ";"), -1004);
        }
        C.due("a ROW of no bytes", Rooms.told(x, ""), -1000);
        x.keep(7, 0, 0, 0);
        C.holds("with a FAULT nothing comes", before.equals(Rooms.all(x)));
    }

    private static void heapsAndAbove() {
        C.part("HEAP: how many (i -1), whose the i-th is; -4");
        CoatsOnTheBed x = Rooms.of("h19;" + "g0000;".repeat(9));
        C.due("nine", x.heap(0, -1), 9);
        C.due("the undermost", x.heap(0, 0), 0);
        C.due("the topmost", x.heap(0, 8), 8);
        C.due("none above it", x.heap(0, 9), -4);
        C.due("none of ten", x.heap(0, 10), -4);
        C.due("ABOVE the undermost", x.above(0), 8);
        C.due("ABOVE the topmost", x.above(8), 0);
        C.due("a HEAP that is not told", x.heap(1, -1), 0);
        C.due("a HEAP that is not told", x.heap(2, 0), -4);
        C.due("fewer HEAPS told: laid anew", Rooms.of("h31;g0000;g0000;h11;").heap(1, -1), 0);
    }

    private static void lifted() {
        C.part("how often its own was lifted by others");
        CoatsOnTheBed x = Rooms.of("h19;g0010;g0020;g0030;g0040;");
        for (int g = 0; g < 4; g++) {
            C.due("lifted " + g, x.fate(g, 5), g);
            C.due("lifts " + g, x.fate(g, 0), 3 - g);
        }
        C.due("turned over each time", Rooms.of("h19;b1;g0010;g0020;g0030;g0040;").fate(3, 5), 1);
    }

    private static void thenSoManyHaveGone() {
        C.part("THEN: when so many have gone");
        CoatsOnTheBed x = Rooms.of("h12;g0030;g0020;g0010;g0005;k2;");
        C.due("0", x.then(0, 0, 1), 1);
        C.due("the one on the floor", x.then(1, 0, 1), 1);
        C.due("the one with a HOOK", x.then(2, 0, 1), 1);
        C.due("the topmost", x.then(3, 0, 1), -4);
        C.due("the undermost is left", x.then(3, 0, 0), 0);
        C.due("all", x.then(4, 0, 0), -4);
        C.due("one more than all", x.then(5, 0, 0), -1);
    }

    private static void fewest() {
        C.part("FEWEST (that hold any number; HOOKS, MISTAKES aside)");
        C.due("one", Rooms.of("g0000;").fewest(), 1);
        C.due("in one minute the higher number goes later", Rooms.of("g0050;g0050;").fewest(), 2);
        C.due("a minute sooner", Rooms.of("g0050;g0049;").fewest(), 1);
        C.due("a minute later", Rooms.of("g0050;g0051;").fewest(), 2);
        C.due("HOLDS 1", Rooms.of("h11;g0050;g0049;g0048;").fewest(), 1);
        C.due("HOOKS aside", Rooms.of("g0010;g0020;g0030;k0;k1;k2;").fewest(), 3);
        C.due("MISTAKES aside", Rooms.of("m1;g3010;g3020;g3030;").fewest(), 3);
        C.due("more than there may be HEAPS", Rooms.of("g0000;".repeat(10)).fewest(), 10);
        C.due("a SLEEPER goes at 99, with those of 99 by numbers",
                Rooms.of("g7000;g0099;").fewest(), 2);
        C.due("a SLEEPER behind 98", Rooms.of("g7000;g0098;").fewest(), 1);
    }

    private static void shown() {
        C.part("SHOWN: (the first such by numbers): the i-th");
        CoatsOnTheBed x = Rooms.of("g0050;g0040;g0060;g0055;g0045;g0070;");
        // 0 2 5, 0 3 5, 1 2 5, 1 3 5, 1 4 5 are three each
        int[] want = {0, 2, 5, -4};
        for (int i = 0; i < want.length; i++) {
            C.due("shown " + i, x.shown(i), want[i]);
        }
        x = Rooms.of("g0060;g0050;g0050;g0070;g0060;");
        int[] others = {1, 2, 3, -4};
        for (int i = 0; i < others.length; i++) {
            C.due("the same minute goes on, shown " + i, x.shown(i), others[i]);
        }
        C.due("falling: the first alone", Rooms.of("g0003;g0002;g0001;").shown(0), 0);
        C.due("falling: no other", Rooms.of("g0003;g0002;g0001;").shown(1), -4);
    }

    private static void least() {
        C.part("LEAST: none above HOLDS; the first such by digits; -4 none");
        C.due("as many as they hold", Rooms.of("h22;g0040;g0030;g0020;g0010;").least(1), 11);
        C.due("one more than they hold", Rooms.of("h22;" + "g0000;".repeat(5)).least(0), -4);
        C.due("one more, but on a HOOK", Rooms.of("h22;" + "g0000;".repeat(5) + "k2;").least(0), 2);
        C.due("digits then", Rooms.of("h22;" + "g0000;".repeat(5) + "k2;").least(1), 911);
        C.due("the first of several", Rooms.of("h39;g0030;g0020;g0010;").least(1), 0);
        C.due("GUEST 0 the highest digit", Rooms.of("h29;g0010;g0020;").least(1), 1);
        C.due("all with HOOKS", Rooms.of("h11;g0010;g0020;g0030;k0;k1;k2;").least(1), 999);
        C.due("a HOOK lifts nothing, whatever lies on HEAPS",
                Rooms.of("h19;g0001;g3010;g0009;k0;").least(0), 0);
        C.due("MISTAKES as they are", Rooms.of("h19;m1;g3010;g3020;").least(0), 0);
        // 0 takes 2's, 2 takes 4's of HEAP 0, so that 3 is free: it is best that 0 is not on HEAP 0
        C.due("GUEST 0 elsewhere", Rooms.of("h29;b1;m1;g3610;g0010;g3511;g0014;g3018;").least(1),
                11100);
        C.due("BACK as it is", Rooms.of("h19;b1;g0001;g0002;g0003;").least(0), 2);
        C.due("BACK as it is", Rooms.of("h19;b0;g0001;g0002;g0003;").least(0), 3);
        C.due("no letter matters", Rooms.of("h29;rf;g0010;g0020;").least(0), 0);
    }

    private static void backs() {
        C.part("BEST BACK, of several the least");
        C.due("all alike", Rooms.of("h29;b2;g0010;g0020;").bestBack(), 0);
        // 0 lifts 3; then 1 and 2 lift, or none, as they lie
        CoatsOnTheBed x = Rooms.of("h29;b0;g0001;g0002;g0003;g0004;");
        C.due("0", x.backs(0), 6);
        C.due("1", x.backs(1), 3);
        C.due("2", x.backs(2), 3);
        C.due("1 and 2 alike", x.bestBack(), 1);
    }

    private static void whomAndWorth() {
        C.part("WHOM: in place of those there are; of several the least");
        CoatsOnTheBed x = Rooms.of("h19;g0010;g0020;g0030;k0;k1;k2;");
        C.due("none in place of three", x.whom(0, 1), 3);
        C.due("none in place of three", x.whom(0, 0), 0);
        C.due("one: each alike, 0 the least", x.whom(1, 0), 1);
        C.due("one: then 1 lifts", x.whom(1, 1), 1);
        C.due("worth by what none would be", x.worth(3), 3);
        C.due("they have them still", x.count(5), 7);
        C.due("the one between, though with 0 it were one LIFT alone",
                Rooms.of("h19;g0030;g0010;g0020;").whom(1, 0), 2);
        C.part("WORTH: how much fewer LIFTS than with none, 0 at least");
        // nobody lifts now; whoever has the one HOOK, another one lifts then
        x = Rooms.of("h23;b2;m1;rs;g6804;g1301;g1105;g5301;g6107;");
        C.due("with none", x.whom(0, 1), 0);
        C.due("with one", x.whom(1, 1), 1);
        C.due("worth 0 at least", x.worth(1), 0);
    }

    private static void enough() {
        C.part("ENOUGH: the fewest HEAPS (1 .. 3) with which LIFTS are v (0 .. 999) or fewer; -4");
        CoatsOnTheBed x = Rooms.of("h39;rs;g0010;g0020;g0030;g0040;");
        // one heap: 6; two, 0 2 | 1 3: 2; three, 0 3 | 1 | 2: 1
        int[] want = {-4, 3, 2, 2, 2, 2, 1, 1};
        for (int v = 0; v < want.length; v++) {
            C.due("v " + v, x.enough(v), want[v]);
        }
        C.due("v 999", x.enough(999), 1);
        C.due("HEAPS as they were", x.count(1), 3);
        C.due("three at most", Rooms.of("rr;" + "g0000;".repeat(4)).enough(0), -4);
        C.due("HOLDS as it is: the floor", Rooms.of("h31;" + "g0000;".repeat(4)).enough(0), 1);
    }

    private static void along() {
        C.part("ALONG: another one that GOES ahead of it; fewer than now, of several the least; -4");
        C.due("as many as now are not fewer", Rooms.of("h19;g0010;g0020;").along(1, 0), -4);
        C.due("as many as now are not fewer", Rooms.of("h19;g0010;g0020;").along(1, 1), -4);
        CoatsOnTheBed x = Rooms.of("h19;g0010;g0020;g0030;");
        C.due("one fewer", x.along(2, 1), 2);
        C.due("nobody GOES ahead of the first", x.along(0, 0), -4);
        // 2 lies above 3 and is lifted by it; 0, 1 lie on the other heap
        x = Rooms.of("h22;g0002;g0001;g0010;g0020;");
        C.due("behind 0 or 1 alike: 0", x.along(3, 0), 0);
        C.due("nobody lifts then", x.along(3, 1), 0);
        x = Rooms.of("h22;g0090;g0091;g0010;g0010;");
        C.due("one that GOES later is none", x.along(3, 0), -4);
        // just behind 0, ahead of 1 of the same minute, though its number is higher
        x = Rooms.of("h19;g0010;g0010;g0050;");
        C.due("now", x.sums(0), 3);
        C.due("behind 0", x.along(2, 0), 0);
        C.due("then 0 lifts two, 1 none", x.along(2, 1), 2);
        // 2 behind 0 passes 1, who still lifts the one that goes last
        x = Rooms.of("h19;g0010;g0020;g0030;g0040;");
        C.due("2 goes ahead of 1: 3 + 1 + 1", x.along(2, 1), 5);
        // by l it would be laid elsewhere if it were to come anew
        x = Rooms.of("h29;rel;g0010;g0020;g0030;g0005;");
        C.due("now 1 lifts 2's", x.sums(0), 1);
        C.due("laid as they are: 2 is still above 1", x.along(2, 0), 0);
        C.due("2 goes ahead of 1", x.along(2, 1), 0);
    }

    private static void turn() {
        C.part("TURN: ahead of the first going in MINUTE m or behind (if nobody goes then, none is)");
        CoatsOnTheBed x = Rooms.of("h19;g0010;g1020;g0030;");
        // now 4 + 1; ahead of 0: 5; ahead of 1: 4 + 4, then 1 lies above; ahead of 2: 5 + 1
        int[][] want = {{0, 5}, {9, 5}, {10, 5}, {11, 8}, {20, 8}, {21, 6}, {30, 6}, {31, 5}, {99, 5}};
        for (int[] w : want) {
            C.due("turn " + w[0], x.turn(w[0]), w[1]);
        }
        C.due("in MINUTE 99", Rooms.of("h19;g7000;g0099;").turn(99), 2);
        C.due("not turned", Rooms.of("h19;g7000;g0099;").sums(0), 1);
        C.due("in MINUTE 0", Rooms.of("h19;g0000;g0000;g1000;").turn(0), 5);
        C.due("nobody goes in 1", Rooms.of("h19;g0000;g0000;g1000;").turn(1), 7);
        C.due("a HOOK goes then: those on HEAPS are turned",
                Rooms.of("h19;g0010;g0020;g0050;k2;").turn(50), 1);
        C.due("a HOOK goes first: those on HEAPS are turned",
                Rooms.of("h19;g0010;g0020;g0005;k2;").turn(5), 2);
        C.due("the floor costs nothing", Rooms.of("h11;g0010;g1020;").turn(0), 1);
        C.due("each HEAP for itself", Rooms.of("h22;g0010;g0020;g0010;g0020;").turn(0), 4);
        C.due("three HEAPS", Rooms.of("h32;g0010;g0020;g0010;g0020;g0010;g0020;").turn(0), 6);
        x = Rooms.of("h19;" + "g0098;".repeat(10));
        C.due("ten, in the last MINUTE of any", x.turn(98), 9);
        C.due("ten, and nobody goes then", x.turn(99), 36);
    }

    private static void bestTurn() {
        C.part("BEST TURN: the least, fewer than without, of several the first; -4");
        C.due("three: 3 as without", Rooms.of("h19;g0010;g0020;g0030;").bestTurn(), -4);
        C.due("four: 4 in place of 6", Rooms.of("h19;g0010;g0020;g0030;g0040;").bestTurn(), 0);
        C.due("nobody lifts", Rooms.of("h19;g0020;g0010;").bestTurn(), -4);
        // 5, a fur above all, goes at 10: behind it is best, from 11 on
        CoatsOnTheBed x = Rooms.of("h19;g0020;g0030;g0040;g0050;g0060;g1010;");
        C.due("the first of 11 .. 20", x.bestTurn(), 11);
        x = Rooms.of("h19;g0099;g7000;g7000;g7000;g0098;");
        C.due("the last MINUTE", x.bestTurn(), 99);
        C.due("then", x.turn(99), 4);
    }

    private static void allOrders() {
        C.part("ALL ORDERS: in the mean (a fraction); at worst; at best");
        CoatsOnTheBed x = Rooms.of("h19;g0010;");
        C.due("one", x.mean(0), 0);
        C.due("one", x.mean(1), 1);
        // 0 lifts the tweed (4) if it goes ahead: 4/2; beneath a coat 1/2
        x = Rooms.of("h19;g0010;g2920;");
        C.due("a whole number", x.mean(0), 2);
        C.due("a whole number", x.mean(1), 1);
        C.due("at worst", x.orders(0), 4);
        C.due("at best", x.orders(1), 0);
        x = Rooms.of("h22;g0010;g0020;g0030;g0040;");
        C.due("two pairs", x.mean(0), 1);
        C.due("at worst", x.orders(0), 2);
        // by turning over, no order of three is without a lift but the falling one
        C.due("BACK as it is, at best", Rooms.of("h19;b1;g0001;g0002;g0003;").orders(1), 0);
        // with MISTAKES all black ones take the topmost
        x = Rooms.of("h19;m1;g3010;g3020;g3030;");
        C.due("nobody lifts in any order", x.orders(0), 0);
        C.due("nobody lifts in any order", x.mean(0), 0);
        C.due("below the line 1", x.mean(1), 1);
        // laid as they are: by o 1 lies on 0, whatever the order of going
        x = Rooms.of("h29;roe;g0020;g0010;");
        C.due("laid as they are", x.orders(0), 1);
    }

    private static void rules() {
        C.part("RULES of one letter: of several the first");
        CoatsOnTheBed x = Rooms.of("h39;rooo;g0010;g0020;g0030;");
        int[] lifts = {3, 0, 0, 3, 3, 0};
        for (int k = 0; k < lifts.length; k++) {
            C.due("rival " + k, x.rival(k), lifts[k]);
        }
        C.due("1 of 1, 2 and 5", x.bestRule(), 1);
        C.due("three letters still", x.count(6), 3);
        C.due("all alike", Rooms.of("h19;rr;g0010;g0020;").bestRule(), 0);
        C.due("e alone: what it does not find is the first, not by the told s",
                Rooms.of("h29;rfs;g0010;g0020;g0030;g0040;").rival(2), 3);
        // all on heap 0; 0 2 | 1 3; 0 2 3 | 1; all; all; 0 2 | 1 3
        x = Rooms.of("h29;g0020;g0030;g0010;g0025;");
        int[] others = {3, 0, 2, 3, 3, 0};
        for (int k = 0; k < others.length; k++) {
            C.due("rival " + k, x.rival(k), others[k]);
        }
    }

    private static void whose() {
        C.part("WHOSE: without each of whom alone one lifts less");
        CoatsOnTheBed x = Rooms.of("h19;g0010;g5090;g0091;g0005;");
        C.due("a child's coat above is no less, nor one that has gone", x.whose(0), 4);
        C.due("nobody lifts less than nothing", x.whose(2), 0);
        C.due("one alone", Rooms.of("g0010;").whose(0), 0);
        C.due("one that comes ahead and lies beneath", Rooms.of("h19;g0090;g0010;g0020;").whose(1), 4);
        // without 1 the fur lies there in its place: not less
        C.due("another one in its place", Rooms.of("h12;g0010;g0090;g1091;").whose(0), 0);
    }

    private static void two() {
        C.part("TWO go 0, 5 or 10 MINUTES later than told (beyond 99, too)");
        // 0 lies beneath 1 and lifts unless it goes behind it
        C.due("0 five later goes behind 1", Rooms.of("h19;g0010;g0014;").two(0, 1), 2);
        C.due("in one minute the lower number is ahead", Rooms.of("h19;g0010;g0015;").two(0, 1), 1);
        C.due("1 five later is too late for 0", Rooms.of("h19;g0010;g0016;").two(0, 1), 1);
        C.due("ten later, in one minute", Rooms.of("h19;g0010;g0020;").two(0, 1), 0);
        C.due("ten later, behind it", Rooms.of("h19;g0010;g0019;g0000;").two(0, 2), 20);
        C.due("five later, behind it", Rooms.of("h19;g0010;g0014;g0000;").two(0, 2), 10);
        C.due("99 and ten behind a SLEEPER", Rooms.of("h19;g0099;g7000;g0000;").two(0, 2), 10);
        C.due("94 and ten behind a SLEEPER", Rooms.of("h19;g0094;g7000;g0000;").two(0, 2), 20);
        C.due("89 and ten: in the SLEEPER's minute, ahead of it",
                Rooms.of("h19;g0089;g7000;g0000;").two(0, 2), 0);
        C.due("90 and ten: behind it", Rooms.of("h19;g0090;g7000;g0000;").two(0, 2), 20);
        C.due("a SLEEPER is never later", Rooms.of("h19;g7000;g0099;g0000;").two(0, 2), 0);
        C.due("a CHILD by its FIGURE less, 0 at least",
                Rooms.of("h19;g5900;g0000;g0000;k2;").two(0, 2), 20);
        // 1 lifts the sleeper's, unless 0 goes ahead of it and turns both over
        C.due("1 would choose ten later, if 0 did not choose five",
                Rooms.of("h19;b1;g0020;g0011;g7000;").two(0, 1), 10);
        C.due("the first's choice ten times", Rooms.of("h19;g0010;g0014;g0000;").two(2, 0), 1);
    }

    private static void chain() {
        C.part("CHAIN: (1, it has its own)");
        CoatsOnTheBed x = Rooms.of("h19;m1;g3001;g3002;g3003;g3004;g0050;");
        // 0 has 3's, 1 2's, 2's is gone: 1's, 3 the last: 0's
        int[] has = {3, 2, 1, 0, 4};
        int[] steps = {2, 2, 2, 2, 1};
        for (int g = 0; g < has.length; g++) {
            C.due("has " + g, x.fate(g, 3), has[g]);
            C.due("chain " + g, x.chain(g), steps[g]);
        }
        C.due("none goes without", x.sums(3), 0);
        x = Rooms.of("h22;m1;g0050;g3009;g3001;g3002;");
        for (int g = 1; g < 4; g++) {
            C.due("a chain of three", x.chain(g), 3);
        }
        // 2 has 3's, 3 1's of HEAP 0, 1 0's, and 0 that of 2, which is left
        x = Rooms.of("h22;m1;g3004;g3003;g3001;g3002;");
        for (int g = 0; g < 4; g++) {
            C.due("has " + g, x.fate(g, 3), new int[] {2, 0, 3, 1}[g]);
            C.due("a chain of all that there are", x.chain(g), 4);
        }
    }

    private static void judged() {
        C.part("JUDGED: not topmost, nor on a HOOK, the floor (no such GUEST, one twice, too); -4");
        CoatsOnTheBed x = Rooms.of("h12;g0000;g0000;g0000;g0000;k2;");
        // heap 0 1, 2 on a hook, 3 on the floor
        int[][] rows = {{}, {1}, {0}, {2}, {3}, {1, 0}, {1, 0, 2, 3}, {3, 2, 1, 0}, {2, 2}, {3, 3},
            {1, 1}, {1, 0, 0}, {4}, {1, 4}, {-1}, {1, 0, 2, 3, 0}, {1, 0, 2, 3, 4},
            {Integer.MIN_VALUE}, {Integer.MAX_VALUE}, {10}, {9}};
        int[] want = {-4, -4, 0, -4, -4, -4, -4, -4, 1, 1, 1, 2, 0, 1, 0, 4, 4, 0, 0, 0, 0};
        for (int k = 0; k < rows.length; k++) {
            Rooms.row(x, 0, 2, rows[k]);
            C.due("row " + java.util.Arrays.toString(rows[k]), x.judge(0), want[k]);
        }
        x.row(0, 0, 100);
        C.due("a hundred that are 0", x.judge(0), 0);
        x.put(0, 0, 1);
        C.due("the first is free, the next too, then it is twice", x.judge(0), 2);
        C.due("nobody has gone", x.heap(0, -1), 2);
    }

    private static void readBack() {
        C.part("READ BACK: it is laid just so; the first such; -4");
        CoatsOnTheBed x = Rooms.of("h12;g0000;g0000;g0000;");
        int[][] rows = {{}, {0}, {0, 1}, {2, 1}, {0, 1, 2}, {1, 1}, {3, 0}, {-1, 0}, {0, 256}};
        int[] many = {0, 0, 1, 1, 0, 0, 0, 0, 0};
        int[] first = {-4, -4, 12, 210, -4, -4, -4, -4, -4};
        for (int k = 0; k < rows.length; k++) {
            Rooms.row(x, 0, 2, rows[k]);
            C.due("how many " + k, x.reads(0, 0), many[k]);
            C.due("the first " + k, x.reads(0, 1), first[k]);
        }
        x.row(0, 2, 100);
        C.due("a hundred", x.reads(0, 0), 0);
        x = Rooms.of("h12;g0000;g0000;g0000;k0;k1;k2;");
        x.row(0, 2, 0);
        C.due("nothing lies there in all orders", x.reads(0, 0), 6);
        C.due("the first", x.reads(0, 1), 12);
        C.due("one", Rooms.of("g0000;").reads(7, 0), -11);
        x = Rooms.of("g0000;");
        Rooms.row(x, 0, 1, 0);
        C.due("one", x.reads(0, 0), 1);
        C.due("one: the first is 0", x.reads(0, 1), 0);
        x = Rooms.of("h11;" + "g0000;".repeat(6));
        Rooms.row(x, 0, 1, 0);
        C.due("six", x.reads(0, 1), 12345);
    }

    /** z becomes z times 1103515245 and 12345 (an int): by numbers that do not wrap. */
    private static int next(int z) {
        return BigInteger.valueOf(z).multiply(BigInteger.valueOf(1103515245))
                .add(BigInteger.valueOf(12345)).intValue();
    }

    private static int drawn(int z) {
        long unsigned = z >= 0 ? z : z + (1L << 31);
        return (int) (unsigned / 65536 % 60);
    }

    private static void seeds() {
        C.part("SEEDS: a DRAW below 60 (by numbers); z (an int) without its sign's bit");
        int[] zs = {Integer.MIN_VALUE, Integer.MIN_VALUE + 1, -1103515245, -65536, -1, 0, 1, 65535,
            65536, 12345, 1103515245, Integer.MAX_VALUE - 1, Integer.MAX_VALUE};
        for (int start : zs) {
            int z = start;
            int lifts = 0;
            int late = 0;
            CoatsOnTheBed x = Rooms.of("h19;g6299;g7099;g1099;");
            for (int n = 1; n <= 20; n++) {
                z = next(z);
                int train = drawn(z);
                // one is drawn for the sleeper, too, who goes last and is always lifted by the train
                z = next(z);
                z = next(z);
                boolean ahead = train <= drawn(z);
                lifts += ahead ? 4 : 1;
                late += ahead ? 1 : 0;
                C.due("LIFTS of " + n + " nights, seed " + start, x.nights(n, start, 0), lifts);
                C.due("MISS of " + n + " nights, seed " + start, x.nights(n, start, 1), late);
            }
            C.due("told as it was", x.guest(0, 2), 99);
        }
        C.part("SEEDS: below 60, and 0");
        // a coat at the draw itself or later, of which a sleeper's 99 is always later
        C.due("nothing is drawn beyond 59", Rooms.of("h19;g7000;g0099;").nights(20, 3, 0), 0);
    }

    private static void lowestBits() {
        C.part("what is put in keeps its lowest bits");
        int[] put = {0, 1, 127, 128, 129, 255, 256, -1, -128, -129, -256, 32767, 32768, 65535, 65536,
            -32768, -32769, Integer.MAX_VALUE, Integer.MIN_VALUE};
        for (int v : put) {
            long[] want = {(v & 127) - (v & 128), (v & 32767) - (v & 32768), v};
            for (int sort = 0; sort < 3; sort++) {
                CoatsOnTheBed x = new CoatsOnTheBed();
                Rooms.row(x, 0, sort, 5, v);
                C.due("put " + v + " in sort " + sort, x.element(0, 1), want[sort]);
                C.due("its neighbour", x.element(0, 0), 5);
                x.row(1, sort, 1);
                C.due("copy", x.copy(0, 1, 1, 0, 1), 1);
                C.due("copied", x.element(1, 0), want[sort]);
            }
        }
    }

    private static void copies() {
        C.part("n elements come, those of one ROW as they were before");
        for (int from = 0; from <= 3; from++) {
            for (int to = 0; to <= 3; to++) {
                CoatsOnTheBed x = new CoatsOnTheBed();
                Rooms.row(x, 0, 0, 1, 2, 3, 4, 5, 6);
                C.due("three", x.copy(0, from, 0, to, 3), 3);
                for (int i = 0; i < 6; i++) {
                    int want = i >= to && i < to + 3 ? from + i - to + 1 : i + 1;
                    C.due(from + " to " + to + " at " + i, x.element(0, i), want);
                }
                C.due("four", x.copy(0, from, 0, to, 4), from < 3 && to < 3 ? 4 : -13);
            }
        }
        CoatsOnTheBed x = new CoatsOnTheBed();
        Rooms.row(x, 0, 0, 1, 2, 3);
        Rooms.row(x, 1, 0, 7, 8, 9);
        C.due("none", x.copy(0, 0, 1, 0, 0), 0);
        C.due("none came", x.element(1, 0), 7);
        C.due("one", x.copy(0, 2, 1, 0, 1), 1);
        C.due("it came", x.element(1, 0), 3);
        C.due("no other came", x.element(1, 1), 8);
        C.due("it is still there", x.element(0, 2), 3);
        C.due("of one kind in other rows", x.put(0, 2, 5), 0);
        C.due("each for itself", x.element(1, 0), 3);
    }

    private static void shelves() {
        C.part("SHELVES 0 .. 7 each hold nothing (at first), a GUEST's KIND, a ROW");
        CoatsOnTheBed x = new CoatsOnTheBed();
        for (int d = 0; d < 8; d++) {
            C.due("nothing", x.cost(d), -11);
            C.due("nothing", x.toss(d), -11);
            C.due("nothing", x.comes(d, 0), -11);
            C.due("nothing", x.room(d), -11);
            C.due("nothing", x.rule(d), -11);
            C.due("nothing", x.judge(d), -11);
            C.due("nothing", x.reads(d, 0), -11);
            C.due("nothing", x.put(d, 0, 0), -11);
            C.due("nothing", x.copy(d, 0, d, 0, 0), -11);
            C.due("nothing", Rooms.thrown(x, d, 0), 2);
        }
        for (int d = 0; d < 8; d++) {
            x.keep(d, 1, 2, d);
        }
        for (int d = 0; d < 8; d++) {
            C.due("each its own", x.cost(d), 4 + d);
            C.due("a ROW in its place", x.row(d, d % 3, d), 0);
            C.due("a ROW", x.cost(d), -12);
        }
        for (int d = 0; d < 8; d++) {
            C.due("its last place", x.put(d, d - 1, 1), d == 0 ? -13 : 0);
            C.due("no place more", x.put(d, d, 1), -13);
            C.due("a coat in its place", x.keep(d, 1, 0, 9), 0);
            C.due("no ROW any more", x.put(d, 0, 1), -12);
            C.due("nothing in its place", x.keep(d, 0, 0, 0), 0);
            C.due("nothing", x.put(d, 0, 1), -11);
        }
    }

    private static void image() {
        C.part("THE IMAGE: all that there is, but SHELVES (and THE IMAGE)");
        CoatsOnTheBed x = Rooms.of("h12;b1;m1;rsf;g0010;g6320;k1;");
        String before = Rooms.all(x);
        C.due("taken", x.image(), 2);
        C.due("all else", Rooms.told(x, "h39;b2;m0;r;k0;k1;g0000;"), 7);
        x.goes(0, 99);
        x.leaves(1);
        x.keep(3, 1, 1, 1);
        C.due("restored", x.restore(), 2);
        C.due("SHELVES are not", x.cost(3), 24);
        x.keep(3, 0, 0, 0);
        x.keep(7, 0, 0, 0);
        C.holds("as it was then", before.equals(Rooms.all(x)));
        x.leaves(0);
        C.due("THE IMAGE is not changed by what comes then", x.restore(), 2);
        C.holds("as it was then", before.equals(Rooms.all(x)));
        CoatsOnTheBed y = new CoatsOnTheBed();
        C.due("of nobody", y.image(), 0);
        C.due("ten come", Rooms.told(y, "g0000;".repeat(10) + "k9;h11;b2;m1;rfselor;"), 15);
        C.due("nobody again", y.restore(), 0);
        int[] counts = {0, 2, 9, 0, 0, 0, 0, 0};
        for (int what = 0; what < counts.length; what++) {
            C.due("count " + what, y.count(what), counts[what]);
        }
        C.due("one comes without a HOOK", Rooms.told(y, "g0000;"), 1);
        C.due("no HOOK", y.count(5), 0);
    }

    private static void failures() {
        C.part("SLEEPERS, and any with FIGURE 0, have none; COST");
        for (int kind = 0; kind < 8; kind++) {
            for (int figure = 0; figure < 10; figure++) {
                CoatsOnTheBed x = new CoatsOnTheBed();
                x.keep(0, 1, kind, figure);
                int[] costs = {4, 24, 4 + figure, 7, 8 + 2 * figure, 2, 7 + figure, 3};
                C.due("cost " + kind + figure, x.cost(0), costs[kind]);
                int failure = kind == 4 ? 200 + costs[4]
                        : kind == 3 || kind == 6 ? 100 + figure : figure;
                boolean none = kind == 7 || figure == 0;
                C.due("toss " + kind + figure, x.toss(0), none ? -15 : failure);
                C.due("it is still there", x.cost(0), costs[kind]);
            }
        }
    }

    private static void fiveHundredCalls() {
        C.part("an object is used for at most 512 calls");
        CoatsOnTheBed x = new CoatsOnTheBed();
        x.keep(0, 1, 1, 9);
        for (int k = 0; k < 100; k++) {
            C.due("comes", x.comes(0, k), 0);
            C.due("hook", x.hook(0), 1);
            C.due("image", x.image(), 1);
            C.due("leaves", x.leaves(0), 0);
            C.due("toss", x.toss(0), 9);
        }
        for (int k = 501; k < 512; k++) {
            C.due("call " + k, x.restore(), 1);
        }
        C.due("call 512", x.guest(0, 2), 99);
    }
}
