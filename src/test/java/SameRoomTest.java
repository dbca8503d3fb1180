import java.util.ArrayList;
import java.util.List;
import java.util.Random;

/**
 * One room, told by a text, by calls, on an object that had another room before, restored from an
 * image: the answers are the same, and the same whether a question is asked alone or behind others.
 */
public final class SameRoomTest {
    private static final Check C = new Check();
    private static final String LETTERS = "fselor";

    private interface Question {
        long ask(CoatsOnTheBed x);
    }

    private final Random dice;
    private final List<int[]> guests = new ArrayList<>();
    private final int[] settings = new int[4];
    private String letters = "";
    private int hooks = 0;

    private SameRoomTest(Random dice) {
        this.dice = dice;
        int n = dice.nextInt(dice.nextBoolean() ? 6 : 11);
        for (int g = 0; g < n; g++) {
            int kind = dice.nextBoolean() ? 3 : dice.nextInt(8);
            guests.add(new int[] {kind, dice.nextInt(10), dice.nextInt(30)});
            boolean hook = dice.nextInt(5) == 0 && Integer.bitCount(hooks) < 3;
            hooks |= hook ? 1 << g : 0;
        }
        settings[0] = 1 + dice.nextInt(3);
        settings[1] = dice.nextBoolean() ? 9 : 1 + dice.nextInt(9);
        settings[2] = dice.nextInt(3);
        settings[3] = dice.nextInt(2);
        int size = dice.nextInt(7);
        for (int k = 0; k < size; k++) {
            letters += LETTERS.charAt(dice.nextInt(6));
        }
    }

    public static void main(String[] args) {
        for (int seed = 1; seed <= 300 && C.wrong() < 20; seed++) {
            Random dice = new Random(seed);
            SameRoomTest room = new SameRoomTest(dice);
            SameRoomTest other = new SameRoomTest(dice);
            room.compare(other, seed);
        }
        C.end();
    }

    private void compare(SameRoomTest other, int seed) {
        List<Question> questions = questions(guests.size());
        CoatsOnTheBed byText = new CoatsOnTheBed();
        C.due("text", Rooms.told(byText, text()) > 0 ? 1 : 0, 1);
        CoatsOnTheBed byCalls = new CoatsOnTheBed();
        tell(byCalls);
        CoatsOnTheBed used = new CoatsOnTheBed();
        other.tell(used);
        for (Question q : questions(other.guests.size())) {
            q.ask(used);
        }
        empty(used);
        tell(used);
        CoatsOnTheBed restored = new CoatsOnTheBed();
        tell(restored);
        restored.image();
        empty(restored);
        other.tell(restored);
        restored.bestRule();
        restored.restore();
        for (int k = 0; k < questions.size(); k++) {
            C.part("seed " + seed + ", " + text() + ", question " + k);
            CoatsOnTheBed fresh = new CoatsOnTheBed();
            tell(fresh);
            long want = questions.get(k).ask(fresh);
            C.due("told by a text, asked behind others,", questions.get(k).ask(byText), want);
            C.due("told by calls, asked behind others,", questions.get(k).ask(byCalls), want);
            C.due("behind another room", questions.get(k).ask(used), want);
            C.due("restored", questions.get(k).ask(restored), want);
        }
    }

    private String text() {
        StringBuilder s = new StringBuilder();
        s.append('h').append(settings[0]).append(settings[1]).append(";b").append(settings[2]);
        s.append(";m").append(settings[3]).append(";r").append(letters).append(';');
        for (int[] guest : guests) {
            s.append('g').append(guest[0]).append(guest[1]).append(guest[2] / 10);
            s.append(guest[2] % 10).append(';');
        }
        for (int g = 0; g < guests.size(); g++) {
            if ((hooks >> g & 1) == 1) {
                s.append('k').append(g).append(';');
            }
        }
        return s.toString();
    }

    private void tell(CoatsOnTheBed x) {
        for (int g = 0; g < guests.size(); g++) {
            x.keep(0, 1, guests.get(g)[0], guests.get(g)[1]);
            x.comes(0, 99);
            x.goes(g, guests.get(g)[2]);
            if ((hooks >> g & 1) == 1) {
                x.hook(g);
            }
        }
        for (int what = 0; what < settings.length; what++) {
            x.set(what, settings[what]);
        }
        Rooms.ruled(x, letters);
    }

    private static void empty(CoatsOnTheBed x) {
        while (x.count(0) > 0) {
            x.leaves(x.count(0) / 2);
        }
        C.due("no HOOK is left", x.count(5), 0);
    }

    private List<Question> questions(int n) {
        List<Question> all = new ArrayList<>();
        for (int k = 0; k < 9; k++) {
            int v = k;
            all.add(x -> x.count(v));
            all.add(x -> x.sums(v));
            all.add(x -> x.shown(v));
            all.add(x -> x.least(v % 2));
            all.add(x -> x.backs(v % 3));
            all.add(x -> x.whom(v % 4, v % 2));
            all.add(x -> x.worth(v % 4));
            all.add(x -> x.enough(3 * v));
            all.add(x -> x.turn(4 * v));
            all.add(x -> x.mean(v % 2));
            all.add(x -> x.orders(v % 2));
            all.add(x -> x.rival(v % 6));
            all.add(x -> x.nights(1 + v, 77 * v, v % 2));
            all.add(x -> x.then(v, v % 3, v % 2));
        }
        for (int k = 0; k < n; k++) {
            int g = k;
            for (int what = 0; what < 9; what++) {
                int w = what;
                all.add(x -> x.guest(g, w));
                all.add(x -> x.fate(g, w));
            }
            all.add(x -> x.above(g));
            all.add(x -> x.order(g));
            all.add(x -> x.along(g, 0));
            all.add(x -> x.along(g, 1));
            all.add(x -> x.whose(g));
            all.add(x -> x.two(g, (g + 1) % n));
            all.add(x -> x.chain(g));
            all.add(x -> x.heap(g % 3, g));
        }
        all.add(x -> x.missing());
        all.add(x -> x.fewest());
        all.add(x -> x.bestBack());
        all.add(x -> x.bestTurn());
        all.add(x -> x.bestRule());
        all.add(x -> rowOf(x, true));
        all.add(x -> rowOf(x, false));
        java.util.Collections.shuffle(all, dice);
        return all;
    }

    private static long rowOf(CoatsOnTheBed x, boolean toRead) {
        int size = Math.max(0, x.heap(0, -1));
        x.row(5, 0, size);
        for (int i = 0; i < size; i++) {
            x.put(5, i, toRead ? x.heap(0, i) : x.heap(0, size - 1 - i));
        }
        return toRead ? 1000000L * x.reads(5, 0) + x.reads(5, 1) : x.judge(5);
    }
}
