import java.util.ArrayList;
import java.util.List;
import java.util.Random;

/** The class against the second telling of the document, in many rooms by seeds. */
public final class ModelTest {
    private static final String LETTERS = "fselor";

    private final Check check = new Check();
    private final Random dice;
    private final Model model = new Model();
    private final CoatsOnTheBed coats;
    private final String text;

    private ModelTest(int seed) {
        dice = new Random(seed);
        text = roomText();
        coats = Rooms.of(text);
        check.part("seed " + seed + " (" + text + ")");
    }

    public static void main(String[] args) {
        int wrong = 0;
        for (int seed = 1; seed <= 3000 && wrong < 20; seed++) {
            ModelTest test = new ModelTest(seed);
            test.laidAndGone();
            test.whatWereBest();
            test.readBack();
            wrong += test.check.wrong();
        }
        System.out.println(wrong + " answers not as the model's");
        if (wrong != 0) {
            System.exit(1);
        }
    }

    private String roomText() {
        StringBuilder s = new StringBuilder();
        int most = dice.nextInt(3) == 0 ? 10 : 6;
        int n = dice.nextInt(most + 1);
        int minutes = dice.nextBoolean() ? 100 : 8;
        for (int g = 0; g < n; g++) {
            int kind = dice.nextInt(3) == 0 ? 3 * dice.nextInt(3) : dice.nextInt(8);
            int figure = dice.nextInt(10);
            int minute = dice.nextInt(minutes);
            boolean hook = false;
            s.append('g').append(kind).append(figure).append(minute / 10).append(minute % 10);
            s.append(';');
            model.guests.add(new Model.Guest(kind, figure, minute, hook));
        }
        hooksInto(s);
        model.heaps = 1 + dice.nextInt(3);
        model.holds = dice.nextInt(3) == 0 ? 1 + dice.nextInt(4) : 9;
        model.back = dice.nextInt(3);
        model.mistakes = dice.nextInt(2);
        s.append('h').append(model.heaps).append(model.holds).append(';');
        s.append('b').append(model.back).append(";m").append(model.mistakes).append(";r");
        int letters = dice.nextInt(7);
        for (int k = 0; k < letters; k++) {
            model.rule += LETTERS.charAt(dice.nextInt(6));
        }
        return s.append(model.rule).append(';').toString();
    }

    private void hooksInto(StringBuilder s) {
        int hooks = dice.nextInt(3) == 0 ? dice.nextInt(4) : 0;
        for (int k = 0; k < hooks && model.n() > 0; k++) {
            int g = dice.nextInt(model.n());
            if (!model.guests.get(g).hook) {
                model.guests.set(g, model.guests.get(g).hooked(true));
                s.append('k').append(g).append(';');
            }
        }
    }

    private void laidAndGone() {
        List<List<Integer>> laid = model.laid(Model.upTo(model.n()));
        for (int h = 0; h < 3; h++) {
            check.due("heap " + h, coats.heap(h, -1), laid.get(h).size());
            for (int i = 0; i < 10; i++) {
                int want = i < laid.get(h).size() ? laid.get(h).get(i) : -4;
                check.due("heap " + h + " " + i, coats.heap(h, i), want);
                int gone = dice.nextInt(model.n() + 1);
                check.due("then " + gone + " " + h + " " + i, coats.then(gone, h, i),
                        model.then(gone, h, i));
            }
        }
        Model.Story story = model.night();
        List<Integer> order = model.order();
        for (int g = 0; g < model.n(); g++) {
            Model.Guest guest = model.guests.get(g);
            int[] told = {guest.kind, guest.figure, guest.told, guest.goes(), guest.lift(),
                guest.black() ? 1 : 0, guest.spare(), guest.hook ? 1 : 0, model.heapOf(g)};
            for (int what = 0; what < told.length; what++) {
                check.due("guest " + g + " " + what, coats.guest(g, what), told[what]);
            }
            int[] fate = {story.lifts[g], story.begins[g], story.leaves[g], story.has[g],
                order.indexOf(g), story.lifted[g]};
            for (int what = 0; what < fate.length; what++) {
                check.due("fate " + g + " " + what, coats.fate(g, what), fate[what]);
            }
            check.due("above " + g, coats.above(g), model.above(g));
            check.due("order " + g, coats.order(g), order.get(g));
        }
        int[] sums = {story.all, story.waiting, story.others, story.none, story.last,
            Integer.bitCount(story.missing)};
        for (int what = 0; what < sums.length; what++) {
            check.due("sums " + what, coats.sums(what), sums[what]);
        }
        check.due("missing", coats.missing(), story.missing);
    }

    private void whatWereBest() {
        check.due("fewest", coats.fewest(), model.fewest());
        List<Integer> shown = model.shown();
        for (int i = 0; i <= shown.size(); i++) {
            check.due("shown " + i, coats.shown(i), i < shown.size() ? shown.get(i) : -4);
        }
        int[] least = model.n() <= 6 ? model.least() : new int[] {-3, -3};
        check.due("least 0", coats.least(0), least[0]);
        check.due("least 1", coats.least(1), least[1]);
        int bestBack = 0;
        for (int back = 0; back < 3; back++) {
            check.due("backs " + back, coats.backs(back), model.withBack(back));
            bestBack = model.withBack(back) < model.withBack(bestBack) ? back : bestBack;
        }
        check.due("bestBack", coats.bestBack(), bestBack);
        for (int k = 0; k <= Math.min(3, model.n()); k++) {
            int[] whom = model.whom(k);
            check.due("whom " + k + " 0", coats.whom(k, 0), whom[0]);
            check.due("whom " + k + " 1", coats.whom(k, 1), whom[1]);
            check.due("worth " + k, coats.worth(k), Math.max(0, model.whom(0)[1] - whom[1]));
        }
        for (int k = 0; k < 5; k++) {
            int v = dice.nextInt(2 * model.lifts() + 3);
            check.due("enough " + v, coats.enough(v), model.enough(v));
        }
        int[] all = model.n() <= 5 ? model.allOrders() : new int[] {-3, -3, -3, -3};
        long refused = model.n() <= 5 ? 0 : -1000000000L;
        check.due("mean 0", coats.mean(0), refused + all[0]);
        check.due("mean 1", coats.mean(1), refused + all[1]);
        check.due("orders 0", coats.orders(0), all[2]);
        check.due("orders 1", coats.orders(1), all[3]);
        check.due("bestRule", coats.bestRule(), model.bestRule());
        for (int k = 0; k < 6; k++) {
            check.due("rival " + k, coats.rival(k), model.rival(k));
        }
        forEachGuest();
        for (int k = 0; k < 5; k++) {
            int m = dice.nextInt(100);
            check.due("turn " + m, coats.turn(m), model.turn(m));
        }
        check.due("bestTurn", coats.bestTurn(), model.bestTurn());
    }

    private void forEachGuest() {
        for (int g = 0; g < model.n(); g++) {
            int[] along = model.along(g);
            check.due("along " + g + " 0", coats.along(g, 0), along[0]);
            check.due("along " + g + " 1", coats.along(g, 1), along[1]);
            check.due("whose " + g, coats.whose(g), model.whose(g));
            check.due("chain " + g, coats.chain(g), model.chain(g));
            int b = dice.nextInt(model.n());
            check.due("two " + g + " " + b, coats.two(g, b), g == b ? -1 : model.two(g, b));
        }
    }

    private void readBack() {
        List<Integer> some = new ArrayList<>(model.laid(shuffled()).get(0));
        if (dice.nextInt(4) == 0) {
            some = shuffled();
        }
        int[] row = new int[some.size()];
        for (int i = 0; i < row.length; i++) {
            row[i] = some.get(i);
        }
        Rooms.row(coats, 5, dice.nextInt(3), row);
        int[] reads = model.n() <= 6 ? model.reads(row) : new int[] {-3, -3};
        check.due("reads 0 " + some, coats.reads(5, 0), reads[0]);
        check.due("reads 1 " + some, coats.reads(5, 1), reads[1]);

        List<Integer> goers = model.order();
        if (dice.nextBoolean()) {
            goers = new ArrayList<>();
            for (int h = 0; h < 5; h++) {
                List<Integer> heap = model.laid(Model.upTo(model.n())).get(h);
                for (int i = heap.size() - 1; i >= 0; i--) {
                    goers.add(heap.get(i));
                }
            }
        }
        if (dice.nextInt(3) == 0) {
            goers.add(dice.nextInt(goers.size() + 1), dice.nextInt(12) - 1);
        }
        row = new int[goers.size()];
        for (int i = 0; i < row.length; i++) {
            row[i] = goers.get(i);
        }
        Rooms.row(coats, 5, dice.nextInt(3), row);
        check.due("judge " + goers, coats.judge(5), model.judge(row));

        int n = 1 + dice.nextInt(20);
        int z = dice.nextInt();
        int[] nights = model.nights(n, z);
        check.due("nights " + n + " " + z + " 0", coats.nights(n, z, 0), nights[0]);
        check.due("nights " + n + " " + z + " 1", coats.nights(n, z, 1), nights[1]);
    }

    private List<Integer> shuffled() {
        List<Integer> all = Model.upTo(model.n());
        java.util.Collections.shuffle(all, dice);
        return all;
    }
}
