import java.util.ArrayList;
import java.util.Collections;
import java.util.List;

/**
 * The document a second time, by lists and by trying all. It shows slips of the class, but not a
 * misreading of the document: both were written by one reader.
 */
final class Model {
    static final class Guest {
        final int kind;
        final int figure;
        final int told;
        final boolean hook;

        Guest(int kind, int figure, int told, boolean hook) {
            this.kind = kind;
            this.figure = figure;
            this.told = told;
            this.hook = hook;
        }

        Guest toldAt(int minute) {
            return new Guest(kind, figure, minute, hook);
        }

        Guest hooked(boolean has) {
            return new Guest(kind, figure, told, has);
        }

        int under() {
            return new int[] {-1, 0, 0, 0, 2, 0, 3, 0}[kind];
        }

        Guest asUnder() {
            return new Guest(under(), figure, told, hook);
        }

        int goes() {
            if (kind == 0) {
                return told;
            }
            if (kind == 5) {
                return asUnder().goes() - figure < 0 ? 0 : asUnder().goes() - figure;
            }
            return kind == 7 ? 99 : asUnder().goes();
        }

        int lift() {
            switch (kind) {
                case 0:
                    return 1;
                case 1:
                    return asUnder().lift() + 2;
                case 2:
                    return asUnder().lift() + figure / 3;
                case 4:
                    return asUnder().lift() + 1;
                case 5:
                    return asUnder().lift() / 2;
                default:
                    return asUnder().lift();
            }
        }

        boolean black() {
            return kind == 3 || kind != 0 && asUnder().black();
        }

        int spare() {
            if (kind == 0) {
                return 99;
            }
            return kind == 6 ? figure : asUnder().spare();
        }
    }

    /** What came of one night. */
    static final class Story {
        List<List<Integer>> heaps;
        int[] lifts = new int[10];
        int[] begins = new int[10];
        int[] leaves = new int[10];
        int[] has = new int[10];
        int[] lifted = new int[10];
        int all;
        int missing;
        int waiting;
        int last;
        int others;
        int none;
    }

    List<Guest> guests = new ArrayList<>();
    int heaps = 2;
    int holds = 9;
    int back = 0;
    int mistakes = 0;
    String rule = "";

    Model same() {
        Model m = new Model();
        m.guests = new ArrayList<>(guests);
        m.heaps = heaps;
        m.holds = holds;
        m.back = back;
        m.mistakes = mistakes;
        m.rule = rule;
        return m;
    }

    int n() {
        return guests.size();
    }

    int goes(int g) {
        return guests.get(g).goes();
    }

    static List<Integer> upTo(int n) {
        List<Integer> list = new ArrayList<>();
        for (int i = 0; i < n; i++) {
            list.add(i);
        }
        return list;
    }

    List<Integer> order() {
        List<Integer> order = upTo(n());
        order.sort((a, b) -> goes(a) != goes(b) ? goes(a) - goes(b) : a - b);
        return order;
    }

    /** Three heaps, then those on a hook, then those on the floor. */
    List<List<Integer>> laid(List<Integer> coming) {
        List<List<Integer>> laid = new ArrayList<>();
        for (int i = 0; i < 5; i++) {
            laid.add(new ArrayList<>());
        }
        int latest = -1;
        for (int g : coming) {
            int h = guests.get(g).hook ? 3 : heapFor(g, laid, latest);
            laid.get(h).add(g);
            latest = h < 3 ? h : latest;
        }
        return laid;
    }

    private int heapFor(int g, List<List<Integer>> laid, int latest) {
        List<Integer> open = new ArrayList<>();
        for (int h = 0; h < heaps; h++) {
            if (laid.get(h).size() < holds) {
                open.add(h);
            }
        }
        if (open.isEmpty()) {
            return 4;
        }
        for (char letter : rule.toCharArray()) {
            List<Integer> fit = new ArrayList<>(open);
            List<Integer> key = new ArrayList<>();
            fit.removeIf(h -> letter == 'e' && !laid.get(h).isEmpty()
                    || (letter == 'l' || letter == 'o') && laid.get(h).isEmpty());
            fit.removeIf(h -> letter == 'o' && goes(top(laid.get(h))) <= goes(g));
            for (int h : fit) {
                switch (letter) {
                    case 's':
                        key.add(laid.get(h).size());
                        break;
                    case 'l':
                        key.add(-goes(top(laid.get(h))));
                        break;
                    case 'o':
                        key.add(goes(top(laid.get(h))));
                        break;
                    case 'r':
                        key.add((h - latest - 1 + 2 * heaps) % heaps);
                        break;
                    default:
                        key.add(0);
                        break;
                }
            }
            if (!fit.isEmpty()) {
                return fit.get(key.indexOf(Collections.min(key)));
            }
        }
        return open.get(0);
    }

    static int top(List<Integer> heap) {
        return heap.get(heap.size() - 1);
    }

    Story night() {
        return night(laid(upTo(n())), order(), n(), 1000);
    }

    int lifts() {
        return night().all;
    }

    /** So many of an order go; all is turned over ahead of the first one of a minute or behind. */
    Story night(List<List<Integer>> laid, List<Integer> order, int gone, int turned) {
        Story s = new Story();
        s.heaps = laid;
        int free = -1;
        boolean toTurn = true;
        for (int g : order.subList(0, gone)) {
            if (toTurn && goes(g) >= turned) {
                toTurn = false;
                for (List<Integer> heap : laid.subList(0, 3)) {
                    Collections.reverse(heap);
                    for (int coat : heap) {
                        s.all += guests.get(coat).lift();
                    }
                }
            }
            boolean waits = !laid.get(3).remove((Integer) g) && !laid.get(4).remove((Integer) g);
            s.begins[g] = waits ? Math.max(free, goes(g)) : goes(g);
            s.has[g] = waits ? dig(g, s) : g;
            s.leaves[g] = s.begins[g] + s.lifts[g];
            free = waits ? s.leaves[g] : free;
            s.all += s.lifts[g];
            s.waiting += s.begins[g] - goes(g);
            s.last = Math.max(s.last, s.leaves[g]);
            s.missing |= s.leaves[g] - goes(g) > guests.get(g).spare() ? 1 << g : 0;
            s.others += s.has[g] != g && s.has[g] >= 0 ? 1 : 0;
            s.none += s.has[g] < 0 ? 1 : 0;
        }
        return s;
    }

    private int dig(int g, Story s) {
        int from = -1;
        for (int h = 2; h >= 0; h--) {
            from = s.heaps.get(h).contains(g) ? h : from;
        }
        for (int h = 0; h < 3 && from < 0; h++) {
            for (int coat : s.heaps.get(h)) {
                from = guests.get(coat).black() ? h : from;
            }
        }
        if (from < 0) {
            return -4;
        }
        List<Integer> heap = s.heaps.get(from);
        List<Integer> lifted = new ArrayList<>();
        boolean mistaken = mistakes == 1 && guests.get(g).black();
        while (top(heap) != g && !(mistaken && guests.get(top(heap)).black())) {
            int coat = heap.remove(heap.size() - 1);
            s.lifts[g] += guests.get(coat).lift();
            s.lifted[coat]++;
            lifted.add(coat);
        }
        int taken = heap.remove(heap.size() - 1);
        if (back == 0) {
            Collections.reverse(lifted);
        }
        s.heaps.get(back == 2 ? (from + 1) % heaps : from).addAll(lifted);
        return taken;
    }

    int heapOf(int g) {
        List<List<Integer>> laid = laid(upTo(n()));
        int at = 0;
        while (!laid.get(at).contains(g)) {
            at++;
        }
        return at == 3 ? 9 : at == 4 ? -4 : at;
    }

    int above(int g) {
        List<List<Integer>> laid = laid(upTo(n()));
        int h = heapOf(g);
        return h < 0 || h == 9 ? 0 : laid.get(h).size() - 1 - laid.get(h).indexOf(g);
    }

    int then(int gone, int h, int i) {
        List<Integer> heap = night(laid(upTo(n())), order(), gone, 1000).heaps.get(h);
        return i < heap.size() ? heap.get(i) : -4;
    }

    private static final class Plan {
        final List<List<Integer>> heaps = new ArrayList<>();
    }

    int fewest() {
        List<Integer> order = order();
        for (int k = 0; k <= n(); k++) {
            Plan plan = new Plan();
            for (int i = 0; i < k; i++) {
                plan.heaps.add(new ArrayList<>());
            }
            if (laysWithoutLift(0, plan, order)) {
                return k;
            }
        }
        return -1;
    }

    private boolean laysWithoutLift(int g, Plan plan, List<Integer> order) {
        if (g == n()) {
            return true;
        }
        for (List<Integer> heap : plan.heaps) {
            if (heap.isEmpty() || order.indexOf(top(heap)) > order.indexOf(g)) {
                heap.add(g);
                boolean can = laysWithoutLift(g + 1, plan, order);
                heap.remove(heap.size() - 1);
                if (can) {
                    return true;
                }
            }
        }
        return false;
    }

    List<Integer> shown() {
        List<Integer> best = null;
        List<Integer> order = order();
        for (int bits = 0; bits < 1 << n(); bits++) {
            List<Integer> some = new ArrayList<>();
            boolean fits = true;
            for (int g = 0; g < n(); g++) {
                if ((bits >> g & 1) == 1) {
                    fits &= some.isEmpty() || order.indexOf(top(some)) < order.indexOf(g);
                    some.add(g);
                }
            }
            if (fits && some.size() == fewest() && (best == null || isAhead(some, best))) {
                best = some;
            }
        }
        return best;
    }

    private static boolean isAhead(List<Integer> a, List<Integer> b) {
        for (int i = 0; i < a.size(); i++) {
            if (!a.get(i).equals(b.get(i))) {
                return a.get(i) < b.get(i);
            }
        }
        return false;
    }

    /** Lifts, digits. */
    int[] least() {
        int[] best = {-4, -4};
        leastFrom(0, new int[n()], best);
        return best;
    }

    private void leastFrom(int g, int[] heapOf, int[] best) {
        if (g < n()) {
            for (int h = 0; h < 10; h++) {
                if (guests.get(g).hook ? h == 9 : h < heaps) {
                    heapOf[g] = h;
                    leastFrom(g + 1, heapOf, best);
                }
            }
            return;
        }
        List<List<Integer>> laid = new ArrayList<>();
        for (int i = 0; i < 5; i++) {
            laid.add(new ArrayList<>());
        }
        int digits = 0;
        for (int i = 0; i < n(); i++) {
            laid.get(heapOf[i] == 9 ? 3 : heapOf[i]).add(i);
            digits = 10 * digits + heapOf[i];
        }
        for (int h = 0; h < 3; h++) {
            if (laid.get(h).size() > holds) {
                return;
            }
        }
        int lifts = night(laid, order(), n(), 1000).all;
        if (best[0] < 0 || lifts < best[0] || lifts == best[0] && digits < best[1]) {
            best[0] = lifts;
            best[1] = digits;
        }
    }

    int withBack(int v) {
        Model m = same();
        m.back = v;
        return m.lifts();
    }

    int withHeaps(int v) {
        Model m = same();
        m.heaps = v;
        return m.lifts();
    }

    int withRule(String letters) {
        Model m = same();
        m.rule = letters;
        return m.lifts();
    }

    int withHooks(int bits) {
        Model m = same();
        for (int g = 0; g < n(); g++) {
            m.guests.set(g, guests.get(g).hooked((bits >> g & 1) == 1));
        }
        return m.lifts();
    }

    /** Bits, lifts. */
    int[] whom(int k) {
        int best = -1;
        for (int bits = 0; bits < 1 << n(); bits++) {
            if (Integer.bitCount(bits) == k && (best < 0 || withHooks(bits) < withHooks(best))) {
                best = bits;
            }
        }
        return new int[] {best, withHooks(best)};
    }

    int enough(int v) {
        return withHeaps(1) <= v ? 1 : withHeaps(2) <= v ? 2 : withHeaps(3) <= v ? 3 : -4;
    }

    /** With whom, lifts. */
    int[] along(int g) {
        int[] best = {-4, -4};
        int now = lifts();
        for (int with = 0; with < n(); with++) {
            List<Integer> order = order();
            if (order.indexOf(with) < order.indexOf(g)) {
                order.remove((Integer) g);
                order.add(order.indexOf(with) + 1, g);
                int lifts = night(laid(upTo(n())), order, n(), 1000).all;
                if (lifts < now && (best[0] < 0 || lifts < best[1])) {
                    best[0] = with;
                    best[1] = lifts;
                }
            }
        }
        return best;
    }

    int turn(int m) {
        return night(laid(upTo(n())), order(), n(), m).all;
    }

    int bestTurn() {
        int best = -4;
        for (int m = 0; m < 100; m++) {
            if (turn(m) < (best < 0 ? lifts() : turn(best))) {
                best = m;
            }
        }
        return best;
    }

    static List<List<Integer>> permutations(int n) {
        List<List<Integer>> all = new ArrayList<>();
        permute(new ArrayList<>(), n, all);
        return all;
    }

    private static void permute(List<Integer> begun, int n, List<List<Integer>> all) {
        if (begun.size() == n) {
            all.add(new ArrayList<>(begun));
            return;
        }
        for (int i = 0; i < n; i++) {
            if (!begun.contains(i)) {
                begun.add(i);
                permute(begun, n, all);
                begun.remove(begun.size() - 1);
            }
        }
    }

    /** Above the line, below it, at worst, at best. */
    int[] allOrders() {
        int sum = 0;
        int worst = -1;
        int best = Integer.MAX_VALUE;
        List<List<Integer>> orders = permutations(n());
        for (List<Integer> order : orders) {
            int lifts = night(laid(upTo(n())), order, n(), 1000).all;
            sum += lifts;
            worst = Math.max(worst, lifts);
            best = Math.min(best, lifts);
        }
        int below = orders.size();
        for (int d = below; d > 1; d--) {
            if (sum % d == 0 && below % d == 0) {
                sum /= d;
                below /= d;
            }
        }
        return new int[] {sum, below, worst, best};
    }

    int bestRule() {
        int best = 0;
        for (int k = 1; k < 6; k++) {
            if (rival(k) < rival(best)) {
                best = k;
            }
        }
        return best;
    }

    int rival(int k) {
        return withRule("fselor".substring(k, k + 1));
    }

    int whose(int g) {
        int bits = 0;
        for (int o = 0; o < n(); o++) {
            if (o != g) {
                Model m = same();
                m.guests.remove(o);
                bits |= m.night().lifts[g - (o < g ? 1 : 0)] < night().lifts[g] ? 1 << o : 0;
            }
        }
        return bits;
    }

    int two(int a, int b) {
        int[][] la = new int[3][3];
        int[][] lb = new int[3][3];
        for (int i = 0; i < 3; i++) {
            for (int j = 0; j < 3; j++) {
                Model m = same();
                m.guests.set(a, guests.get(a).toldAt(guests.get(a).told + 5 * i));
                m.guests.set(b, guests.get(b).toldAt(guests.get(b).told + 5 * j));
                Story s = m.night();
                la[i][j] = s.lifts[a];
                lb[i][j] = s.lifts[b];
            }
        }
        for (int i = 0; i < 3; i++) {
            for (int j = 0; j < 3; j++) {
                int leastA = Math.min(la[0][j], Math.min(la[1][j], la[2][j]));
                int leastB = Math.min(lb[i][0], Math.min(lb[i][1], lb[i][2]));
                if (la[i][j] == leastA && lb[i][j] == leastB) {
                    return 10 * i + j;
                }
            }
        }
        return -4;
    }

    int chain(int g) {
        Story s = night();
        List<Integer> met = new ArrayList<>();
        int at = g;
        while (at >= 0 && !met.contains(at)) {
            met.add(at);
            at = s.has[at];
        }
        return at == g ? met.size() : 0;
    }

    int judge(int[] row) {
        List<List<Integer>> laid = laid(upTo(n()));
        for (int i = 0; i < row.length; i++) {
            boolean found = false;
            for (int p = 0; p < 5; p++) {
                List<Integer> heap = laid.get(p);
                if (!found && heap.contains(row[i]) && (p > 2 || top(heap) == row[i])) {
                    heap.remove((Integer) row[i]);
                    found = true;
                }
            }
            if (!found) {
                return i;
            }
        }
        return -4;
    }

    /** How many, the first. */
    int[] reads(int[] row) {
        int[] answer = {0, -4};
        List<Integer> wanted = new ArrayList<>();
        for (int v : row) {
            wanted.add(v);
        }
        for (List<Integer> coming : permutations(n())) {
            if (laid(coming).get(0).equals(wanted)) {
                answer[0]++;
                if (answer[1] < 0) {
                    answer[1] = 0;
                    for (int g : coming) {
                        answer[1] = 10 * answer[1] + g;
                    }
                }
            }
        }
        return answer;
    }

    /** Lifts, how many miss. */
    int[] nights(int n, int z) {
        int[] answer = new int[2];
        for (int k = 0; k < n; k++) {
            Model m = same();
            for (int g = 0; g < n(); g++) {
                long next = z * 1103515245L + 12345L;
                z = (int) next;
                int draw = (z & Integer.MAX_VALUE) / 65536 % 60;
                m.guests.set(g, guests.get(g).toldAt(draw));
            }
            Story s = m.night();
            answer[0] += s.all;
            answer[1] += Integer.bitCount(s.missing);
        }
        return answer;
    }
}
