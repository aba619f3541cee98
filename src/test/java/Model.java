import java.util.ArrayDeque;
import java.util.ArrayList;
import java.util.HashMap;
import java.util.List;
import java.util.Map;

/**
 * The document done the slow way, to be held against NineHoles: the law as a tree, goes with real queues and stacks,
 * plans, tables, yards and orders by trying all there are.
 */
final class Model {
    static final class Refused extends RuntimeException {
        private static final long serialVersionUID = 1L;
    }

    static final class Fault extends RuntimeException {
        private static final long serialVersionUID = 1L;
        final int told;

        Fault(int number, int place) {
            told = -1000 * number - place;
        }
    }

    interface Sum {
        int of(Map<Character, Integer> signs);
    }

    interface Test {
        boolean of(Map<Character, Integer> signs);
    }

    record Clause(char kind, Sum sum, Test test) { }

    record Letter(int street, int weight, int comes) { }

    /** What is kept and undone. */
    static final class Desk {
        List<Letter> letters = new ArrayList<>();
        List<Integer> heap = new ArrayList<>();
        List<Integer> lastHole = new ArrayList<>();
        int go = 0;
        int x = 1;

        Desk copy() {
            Desk d = new Desk();
            d.letters.addAll(letters);
            d.heap.addAll(heap);
            d.lastHole.addAll(lastHole);
            d.go = go;
            d.x = x;
            return d;
        }
    }

    Desk desk = new Desk();
    Desk kept = null;
    List<Clause> law = new ArrayList<>();
    int[] ranks = new int[20];
    int holes = 9;
    int pipes = 0;
    List<Integer> tape = new ArrayList<>();

    Model() {
        for (int s = 0; s < 20; s++) ranks[s] = s;
    }

    // ---- plain calls

    int letter(int street, int weight, int comes) {
        if (street < 0 || street > 19 || weight < 0 || weight > 99 || comes < 0 || comes > 12) return -1;
        if (comes != 0 && comes < desk.go + 1) return -1;
        if (desk.letters.size() == 32) return -1;
        desk.letters.add(new Letter(street, weight, comes));
        desk.lastHole.add(9);
        if (comes == 0) desk.heap.add(desk.letters.size() - 1);
        return desk.letters.size() - 1;
    }

    boolean rank(int street, int r) {
        if (street < 0 || street > 19 || r < 0 || r > 19) return false;
        ranks[street] = r;
        return true;
    }

    boolean rack(int h, int p) {
        if (h < 1 || h > 9 || p < 0 || p > (1 << h) - 1) return false;
        holes = h;
        pipes = p;
        return true;
    }

    int feed(int a, int b, int c, int d, int e) {
        if (tape.size() > 200) return -1;
        for (int v : new int[] {a, b, c, d, e}) {
            tape.add(v >>> 24);
            tape.add((v >>> 16) % 256);
            tape.add((v >>> 8) % 256);
            tape.add((v & 0xff));
        }
        return tape.size();
    }

    int law(int n) {
        if (n < 1 || n > 200 || n > tape.size()) return -1;
        List<Integer> bytes = new ArrayList<>(tape.subList(0, n));
        tape.clear();
        try {
            law = new Parser(bytes).text();
            return law.size();
        } catch (Fault f) {
            return f.told;
        }
    }

    boolean order(int n) {
        if (n != desk.heap.size() || n > tape.size()) return false;
        List<Integer> told = new ArrayList<>(tape.subList(0, n));
        tape.clear();
        for (int i : desk.heap) if (!told.contains(i)) return false;
        desk.heap = told;
        return true;
    }

    int letterIs(int i, int what) {
        if (i < 0 || i >= desk.letters.size() || what < 0 || what > 4) return -1;
        int place = desk.heap.indexOf(i);
        if (what == 0) return desk.letters.get(i).street;
        if (what == 1) return desk.letters.get(i).weight;
        if (what == 2) return place == -1 ? -2 : place;
        if (what == 3) return desk.lastHole.get(i);
        if (place == -1 || leftOut(desk, i)) return -2;
        return hole(desk, i);
    }

    int at(int place) {
        return place < 0 || place >= desk.heap.size() ? -1 : desk.heap.get(place);
    }

    int goes(int n) {
        if (n < 1 || n > 12 || n > 12 - desk.go) return -1;
        int sum = 0;
        for (int k = 0; k < n; k++) sum += go(desk, -1, -1)[0];
        return sum;
    }

    int tried(int n, int what) {
        if (n < 1 || n > 12 || n > 12 - desk.go) return -1;
        if (what < 0 || what > 41 || what > 3 && what < 10) return -1;
        Desk d = desk.copy();
        int[] sums = new int[3];
        for (int k = 0; k < n; k++) {
            int[] r = go(d, -1, -1);
            for (int j = 0; j < 3; j++) sums[j] += r[j];
        }
        if (what < 3) return sums[what];
        if (what == 3) return out(d);
        return what - 10 < d.heap.size() ? d.heap.get(what - 10) : -2;
    }

    int out() {
        return out(desk);
    }

    int out(Desk d) {
        for (int p = 1; p < d.heap.size(); p++) if (rankOf(d, p) < rankOf(d, p - 1)) return p;
        return -1;
    }

    int rankOf(Desk d, int place) {
        return ranks[d.letters.get(d.heap.get(place)).street];
    }

    int forAny(int streets, int h) {
        if (streets < 1 || streets > 10000 || h < 1 || h > 9) return -1;
        for (int g = 0; g < 20; g++) if (Math.pow(h, g) >= streets) return g;
        return -2;
    }

    int runs(int what) {
        if (what < 0 || what > 1) return -1;
        List<Integer> present = presentRanks();
        return fewestRows(present, ranksInHeap(), what == 0);
    }

    List<Integer> ranksInHeap() {
        List<Integer> r = new ArrayList<>();
        for (int p = 0; p < desk.heap.size(); p++) r.add(rankOf(desk, p));
        return r;
    }

    List<Integer> presentRanks() {
        List<Integer> in = ranksInHeap();
        List<Integer> present = new ArrayList<>();
        for (int r = 0; r < 20; r++) if (in.contains(r)) present.add(r);
        return present;
    }

    static int fewestRows(List<Integer> keys, List<Integer> heap, boolean forward) {
        int rows = 0;
        for (int i = 0; i < keys.size(); i++) if (i == 0 || !goesOn(keys.get(i - 1), keys.get(i), heap, forward)) rows++;
        return rows;
    }

    static boolean goesOn(int a, int b, List<Integer> heap, boolean forward) {
        return forward ? heap.lastIndexOf(a) < heap.indexOf(b) : heap.indexOf(a) > heap.lastIndexOf(b);
    }

    // ---- the plan

    List<List<Integer>> ways(int goes) {
        List<List<Integer>> ways = new ArrayList<>();
        if (goes == 0) {
            ways.add(new ArrayList<>());
            return ways;
        }
        List<List<Integer>> ahead = ways(goes - 1);
        for (int h = 0; h < holes; h++) {
            for (int j = 0; j < ahead.size() && ways.size() < 4000; j++) {
                List<Integer> way = new ArrayList<>(ahead.get(isPipe(h) ? ahead.size() - 1 - j : j));
                way.add(h);
                ways.add(way);
            }
        }
        return ways;
    }

    boolean isPipe(int h) {
        return (pipes & 1 << h) != 0;
    }

    /** The way of each rank; null: none by so many goes. */
    Map<Integer, List<Integer>> planBy(int goes) {
        List<Integer> present = presentRanks();
        List<Integer> heap = ranksInHeap();
        Map<Integer, List<Integer>> found = new HashMap<>();
        int put = 0;
        for (List<Integer> way : ways(goes)) {
            boolean forward = true;
            for (int h : way) if (isPipe(h)) forward = !forward;
            boolean one = false;
            while (put < present.size() && (!one || goesOn(present.get(put - 1), present.get(put), heap, forward))) {
                found.put(present.get(put++), way);
                one = true;
            }
        }
        return put == present.size() ? found : null;
    }

    int plan() {
        for (int g = 0; g <= 5; g++) if (planBy(g) != null) return g;
        return -2;
    }

    int planned(int i, int k) {
        if (i < 0 || i >= desk.letters.size()) return -1;
        int g = plan();
        if (!desk.heap.contains(i) || g < 0 || k < 0 || k >= g) return -2;
        return planBy(g).get(ranks[desk.letters.get(i).street]).get(k);
    }

    int planDone() {
        int g = plan();
        if (g < 0) return -2;
        Map<Integer, List<Integer>> by = planBy(g);
        for (int k = 0; k < g; k++) {
            List<Integer> into = new ArrayList<>();
            for (int p = 0; p < desk.heap.size(); p++) into.add(by.get(rankOf(desk, p)).get(k));
            desk.heap = thrown(desk.heap, into);
        }
        if (out() != -1) throw new IllegalStateException("the plan doesn't sort");
        return g;
    }

    // ---- tables

    static final int NEVER = 1 << 20;

    int lettersIn(int a, int b) {
        int n = 0;
        for (int i : desk.heap) if (desk.letters.get(i).street >= a && desk.letters.get(i).street <= b) n++;
        return n;
    }

    int streetsIn(int a, int b) {
        int n = 0;
        for (int s = a; s <= b; s++) if (lettersIn(s, s) > 0) n++;
        return n;
    }

    private final Map<Integer, Integer> throwsKnown = new HashMap<>();

    int throwsOf(int a, int b, int d) {
        if (streetsIn(a, b) <= 1) return 0;
        if (d == 0) return NEVER;
        int key = (a * 20 + b) * 13 + d;
        if (!throwsKnown.containsKey(key)) {
            throwsKnown.put(key, Math.min(NEVER, lettersIn(a, b) + shareOut(a, b, d - 1, holes)));
        }
        return throwsKnown.get(key);
    }

    private final Map<Integer, Integer> sharesKnown = new HashMap<>();

    int shareOut(int a, int b, int d, int most) {
        if (a > b) return 0;
        if (most == 0) return NEVER;
        int key = ((a * 20 + b) * 13 + d) * 10 + most;
        if (!sharesKnown.containsKey(key)) {
            int best = NEVER;
            for (int end = a; end <= b; end++) {
                // a single hole for all would be the same heap again, which ends as d does
                best = Math.min(best, throwsOf(a, end, d) + shareOut(end + 1, b, d, most - 1));
            }
            sharesKnown.put(key, best);
        }
        return sharesKnown.get(key);
    }

    boolean noTables(int a, int b, int d) {
        return a < 0 || a > b || b > 19 || d < 1 || d > 12;
    }

    int tables(int a, int b, int d) {
        if (noTables(a, b, d)) return -1;
        throwsKnown.clear();
        sharesKnown.clear();
        int t = throwsOf(a, b, d);
        return t >= NEVER ? -2 : t;
    }

    int table(int a, int b, int d, int k) {
        if (noTables(a, b, d) || k < 0 || k > 8) return -1;
        int t = tables(a, b, d);
        if (t == -2) return -1;
        if (t == 0) return -2;
        List<Integer> best = null;
        // all ways of parting a to b, each a set of streets that begin a hole
        for (long cut = 0; cut < 1L << (b - a); cut++) {
            if (Long.bitCount(cut) + 1 > holes) continue;
            List<Integer> starts = new ArrayList<>();
            starts.add(a);
            for (int s = a + 1; s <= b; s++) if ((cut >> (s - a - 1) & 1) != 0) starts.add(s);
            int cost = lettersIn(a, b);
            for (int j = 0; j < starts.size(); j++) {
                cost += throwsOf(starts.get(j), j + 1 < starts.size() ? starts.get(j + 1) - 1 : b, d - 1);
            }
            if (cost == t && (best == null || starts.size() < best.size() || starts.size() == best.size() && isLess(starts, best))) best = starts;
        }
        return k < best.size() ? best.get(k) : -2;
    }

    static boolean isLess(List<Integer> a, List<Integer> b) {
        for (int i = 0; i < a.size(); i++) if (!a.get(i).equals(b.get(i))) return a.get(i) < b.get(i);
        return false;
    }

    // ---- the yard

    int yardQueues() {
        return firstFit(false);
    }

    int yardPipes() {
        return firstFit(true);
    }

    /** Into the fullest hole that takes it: known to need the fewest holes. */
    int firstFit(boolean pipe) {
        List<Integer> ends = new ArrayList<>();
        for (int r : ranksInHeap()) {
            int best = -1;
            for (int h = 0; h < ends.size(); h++) {
                boolean takes = pipe ? ends.get(h) >= r : ends.get(h) <= r;
                if (takes && (best < 0 || Math.abs(ends.get(h) - r) < Math.abs(ends.get(best) - r))) best = h;
            }
            if (best < 0) ends.add(r); else ends.set(best, r);
        }
        return ends.size();
    }

    int yard(int n, int what) {
        if (n < 1 || n > 10 || n > desk.heap.size()) return -1;
        if (what != -1 && (what < 0 || what >= n)) return -3;
        List<Integer> row = leastRow(ranksInHeap().subList(0, n), new ArrayList<>(), new HashMap<>());
        if (what == -1) return row == null ? 0 : 1;
        return row == null ? -2 : row.get(what);
    }

    List<Integer> leastRow(List<Integer> letters, List<Integer> row, Map<String, Boolean> hopeless) {
        if (row.size() == letters.size()) return comesOut(letters, row) ? row : null;
        StringBuilder ends = new StringBuilder().append(row.size());
        for (int h = 0; h < holes; h++) ends.append(',').append(row.lastIndexOf(h) < 0 ? "-" : letters.get(row.lastIndexOf(h)));
        if (hopeless.containsKey(ends.toString())) return null;
        for (int h = 0; h < holes; h++) {
            List<Integer> more = new ArrayList<>(row);
            more.add(h);
            List<Integer> found = comesOut(letters.subList(0, more.size()), more) ? leastRow(letters, more, hopeless) : null;
            if (found != null) return found;
        }
        hopeless.put(ends.toString(), true);
        return null;
    }

    /** Empties the holes for real: ever the least rank that is left must stand open somewhere. */
    boolean comesOut(List<Integer> letters, List<Integer> row) {
        List<ArrayDeque<Integer>> in = new ArrayList<>();
        for (int h = 0; h < 9; h++) in.add(new ArrayDeque<>());
        for (int j = 0; j < letters.size(); j++) in.get(row.get(j)).addLast(letters.get(j));
        int left = letters.size();
        for (int r = 0; r < 20; r++) {
            for (int h = 0; h < 9; h++) {
                while (!in.get(h).isEmpty() && (isPipe(h) ? in.get(h).peekLast() : in.get(h).peekFirst()) == r) {
                    if (isPipe(h)) in.get(h).pollLast(); else in.get(h).pollFirst();
                    left--;
                }
            }
        }
        return left == 0;
    }

    // ---- together

    int together(int what) {
        List<Integer> heap = new ArrayList<>();
        for (int i : desk.heap) heap.add(desk.letters.get(i).street);
        List<Integer> present = new ArrayList<>();
        for (int s = 0; s < 20; s++) if (heap.contains(s)) present.add(s);
        if (present.isEmpty() || present.size() > 8) return -2;
        if (what != -1 && (what < 0 || what >= present.size())) return -3;
        best = null;
        fewest = 99;
        permute(present, new ArrayList<>(), heap, 0);
        return what == -1 ? fewest : best.get(what);
    }

    private List<Integer> best;
    private int fewest;

    private void permute(List<Integer> present, List<Integer> row, List<Integer> heap, int rows) {
        if (rows >= fewest) return;
        if (row.size() == present.size()) {
            fewest = rows;
            best = new ArrayList<>(row);
            return;
        }
        for (int s : present) {
            if (row.contains(s)) continue;
            boolean on = !row.isEmpty() && goesOn(row.get(row.size() - 1), s, heap, true);
            row.add(s);
            permute(present, row, heap, on ? rows : rows + 1);
            row.remove(row.size() - 1);
        }
    }

    // ---- blunders

    int blunder(int n, int k, int i, int hole, int what) {
        if (n < 1 || n > 12 || n > 12 - desk.go || k < 0 || k >= n || i < 0 || i >= desk.letters.size()) return -1;
        if (hole < 0 || hole >= holes || what < 0 || what > 2) return -1;
        Desk right = after(n, -1, -1, -1);
        Desk wrong = after(n, k, i, hole);
        if (wrong == null) return -2;
        if (what == 0) return wrong.heap.indexOf(i);
        if (what == 1) return Math.abs(wrong.heap.indexOf(i) - right.heap.indexOf(i));
        int others = 0;
        for (int j : right.heap) if (j != i && right.heap.indexOf(j) != wrong.heap.indexOf(j)) others++;
        return others;
    }

    /** null: no blunder. */
    Desk after(int n, int k, int i, int hole) {
        Desk d = desk.copy();
        for (int g = 0; g < n; g++) {
            int[] r = go(d, g == k ? i : -1, hole);
            if (r == null) return null;
        }
        return d;
    }

    int badly(int n, int what) {
        if (n < 1 || n > 6 || n > 12 - desk.go || what < -1 || what > 2) return -1;
        Desk right = after(n, -1, -1, -1);
        if (tape.size() < right.heap.size()) return -1;
        List<Integer> told = new ArrayList<>(tape.subList(0, right.heap.size()));
        tape.clear();
        if (told.equals(right.heap)) return -3;
        List<int[]> found = new ArrayList<>();
        for (int k = 0; k < n; k++) {
            for (int i = 0; i < desk.letters.size(); i++) {
                for (int h = 0; h < holes; h++) {
                    Desk wrong = after(n, k, i, h);
                    if (wrong != null && wrong.heap.equals(told)) found.add(new int[] {k, i, h});
                }
            }
        }
        if (what == -1) return found.size();
        return found.isEmpty() ? -2 : found.get(0)[what];
    }

    // ---- clerks, wanted, the rest

    int clerks(int k) {
        if (desk.go == 12) return -1;
        Desk d = desk.copy();
        comeIn(d);
        if (k < -1 || k > d.heap.size()) return -2;
        int bestK = -1;
        int bestTime = 0;
        for (int j = 0; j <= d.heap.size(); j++) {
            int one = 0;
            int two = 0;
            for (int p = 0; p < d.heap.size(); p++) {
                int i = d.heap.get(p);
                int t = leftOut(d, i) ? 0 : seconds(d, i);
                if (p < j) one += t; else two += t;
            }
            int time = Math.max(one, two);
            if (j == k) return time;
            if (bestK < 0 || time < bestTime) {
                bestK = j;
                bestTime = time;
            }
        }
        return bestK;
    }

    int wanted(int streets) {
        if (streets <= 0 || streets > 0xfffff) return -1;
        int last = -1;
        for (int p = 0; p < desk.heap.size(); p++) if (isWanted(streets, p)) last = p;
        if (last < 0) return -2;
        int thrownAll = 0;
        int letLie = 0;
        for (int p = 0; p <= last; p++) {
            int t = seconds(desk, desk.heap.get(p));
            thrownAll += t;
            letLie += isWanted(streets, p) ? t : 1;
        }
        return Math.min(thrownAll, letLie);
    }

    boolean isWanted(int streets, int p) {
        return (streets & 1 << desk.letters.get(desk.heap.get(p)).street) != 0;
    }

    boolean seed(int x) {
        if (x < 0 || x > 65535) return false;
        desk.x = x;
        return true;
    }

    int shuffle() {
        for (int k = desk.heap.size() - 1; k >= 1; k--) {
            desk.x = (int) ((25173L * desk.x + 13849L) % 65536L);
            java.util.Collections.swap(desk.heap, k, desk.x % (k + 1));
        }
        return out();
    }

    int keep() {
        kept = desk.copy();
        return desk.heap.size();
    }

    boolean undo() {
        if (kept == null) return false;
        desk = kept.copy();
        return true;
    }

    int check(int n) {
        if (n < 0 || n > 32 || tape.size() < 4 * n) return -2;
        List<Integer> told = new ArrayList<>(tape);
        tape.clear();
        for (int p = 0; p < n; p++) {
            if (p >= desk.heap.size()) return p;
            int i = desk.heap.get(p);
            if (told.get(4 * p) != 0 || told.get(4 * p + 1) != 0 || told.get(4 * p + 2) != 0 || told.get(4 * p + 3) != i) return p;
        }
        return -1;
    }

    int count(int what) {
        int bits = 0;
        int weights = 0;
        for (int i : desk.heap) {
            bits |= 1 << desk.letters.get(i).street;
            weights += desk.letters.get(i).weight;
        }
        int[] told = {desk.letters.size(), desk.heap.size(), desk.go, law.size(), tape.size(), desk.x, holes, pipes, bits, weights};
        if (what >= 0 && what <= 9) return told[what];
        return what >= 20 && what <= 39 ? ranks[what - 20] : -1;
    }

    // ---- goes

    static void comeIn(Desk d) {
        for (int i = 0; i < d.letters.size(); i++) if (d.letters.get(i).comes == d.go + 1) d.heap.add(i);
    }

    /** Seconds, load, throws; letter i goes into the hole instead (null: that is no blunder). */
    int[] go(Desk d, int i, int hole) {
        comeIn(d);
        List<Integer> into = new ArrayList<>();
        int[] sums = new int[3];
        for (int j : d.heap) {
            into.add(leftOut(d, j) ? -1 : hole(d, j));
            if (into.get(into.size() - 1) >= 0) {
                sums[0] += seconds(d, j);
                sums[1] += d.letters.get(j).weight;
                sums[2]++;
            }
        }
        if (i >= 0) {
            int p = d.heap.indexOf(i);
            if (p < 0 || into.get(p) < 0 || into.get(p) == hole) return null;
            into.set(p, hole);
        }
        for (int p = 0; p < into.size(); p++) if (into.get(p) >= 0) d.lastHole.set(d.heap.get(p), into.get(p));
        d.heap = thrown(d.heap, into);
        d.go++;
        return sums;
    }

    List<Integer> thrown(List<Integer> heap, List<Integer> into) {
        List<Integer> out = new ArrayList<>();
        for (int p = 0; p < heap.size(); p++) if (into.get(p) < 0) out.add(heap.get(p));
        for (int h = 0; h < holes; h++) {
            List<Integer> in = new ArrayList<>();
            for (int p = 0; p < heap.size(); p++) if (into.get(p) == h) in.add(isPipe(h) ? 0 : in.size(), heap.get(p));
            out.addAll(in);
        }
        return out;
    }

    Map<Character, Integer> signs(Desk d, int i) {
        Map<Character, Integer> m = new HashMap<>();
        m.put('s', d.letters.get(i).street);
        m.put('r', ranks[d.letters.get(i).street]);
        m.put('w', d.letters.get(i).weight);
        m.put('i', i);
        m.put('p', d.heap.indexOf(i));
        m.put('g', d.go);
        m.put('o', d.lastHole.get(i));
        m.put('n', holes);
        return m;
    }

    static boolean holds(Clause c, Map<Character, Integer> signs) {
        try {
            return c.test.of(signs);
        } catch (Refused r) {
            return false;
        }
    }

    int amount(char kind, Desk d, int i, int most) {
        Map<Character, Integer> signs = signs(d, i);
        for (Clause c : law) {
            if (c.kind == kind && holds(c, signs)) {
                try {
                    return Math.max(0, Math.min(most, c.sum.of(signs)));
                } catch (Refused r) {
                    return 0;
                }
            }
        }
        return 0;
    }

    int hole(Desk d, int i) {
        return amount('h', d, i, holes - 1);
    }

    int seconds(Desk d, int i) {
        return amount('t', d, i, 99);
    }

    boolean leftOut(Desk d, int i) {
        for (Clause c : law) if (c.kind == 'z' && holds(c, signs(d, i))) return true;
        return false;
    }

    /** The grammar, with what is open kept as a stack of signs. */
    static final class Parser {
        private final List<Integer> bytes;
        private final ArrayDeque<Character> open = new ArrayDeque<>();
        private int at = 0;

        Parser(List<Integer> bytes) {
            this.bytes = bytes;
        }

        char peek() {
            return at < bytes.size() ? (char) (int) bytes.get(at) : '\uffff';
        }

        void need(char c) {
            if (peek() != c) throw new Fault(1, at);
            at++;
        }

        void enter(char c) {
            if (peek() != c) throw new Fault(1, at);
            if (open.size() == 6) throw new Fault(5, at);
            open.push(c);
            at++;
        }

        List<Clause> text() {
            List<Clause> all = new ArrayList<>();
            do {
                if (!all.isEmpty()) need(';');
                char kind = peek();
                if ("htz".indexOf(kind) < 0) throw new Fault(1, at);
                if (all.size() == 14) throw new Fault(4, at);
                at++;
                Sum e = kind == 'z' ? null : sum();
                enter('(');
                Test c = test();
                need(')');
                open.pop();
                all.add(new Clause(kind, e, c));
            } while (at < bytes.size());
            return all;
        }

        Test test() {
            Test left = part();
            while (peek() == '|') {
                at++;
                Test a = left;
                Test b = part();
                left = m -> a.of(m) || b.of(m);
            }
            return left;
        }

        Test part() {
            Test left = piece();
            while (peek() == '&') {
                at++;
                Test a = left;
                Test b = piece();
                left = m -> a.of(m) && b.of(m);
            }
            return left;
        }

        Test piece() {
            if (peek() == '!') {
                enter('!');
                Test inner = piece();
                open.pop();
                return m -> !inner.of(m);
            }
            if (peek() == '(') {
                enter('(');
                Test inner = test();
                need(')');
                open.pop();
                return inner;
            }
            Sum a = sum();
            char c = peek();
            if ("<>=".indexOf(c) < 0) throw new Fault(1, at);
            at++;
            Sum b = sum();
            return m -> {
                int left = a.of(m);
                int right = b.of(m);
                return c == '<' ? left < right : c == '>' ? left > right : left == right;
            };
        }

        Sum sum() {
            Sum left = term();
            while (peek() == '+' || peek() == '-') {
                boolean plus = peek() == '+';
                at++;
                Sum a = left;
                Sum b = term();
                left = m -> plus ? a.of(m) + b.of(m) : a.of(m) - b.of(m);
            }
            return left;
        }

        Sum term() {
            Sum left = factor();
            while (peek() == '*' || peek() == '/' || peek() == '%') {
                char c = peek();
                at++;
                Sum a = left;
                Sum b = factor();
                left = m -> {
                    int x = a.of(m);
                    int y = b.of(m);
                    if (c == '*') return x * y;
                    if (y == 0) throw new Refused();
                    return c == '/' ? x / y : x % y;
                };
            }
            return left;
        }

        Sum factor() {
            if (peek() == '[') {
                enter('[');
                Sum inner = sum();
                need(']');
                open.pop();
                return inner;
            }
            if (peek() >= '0' && peek() <= '9') {
                StringBuilder digits = new StringBuilder();
                while (peek() >= '0' && peek() <= '9') {
                    if (digits.length() == 5) throw new Fault(2, at);
                    digits.append(peek());
                    at++;
                }
                int number = Integer.parseInt(digits.toString());
                return m -> number;
            }
            char c = peek();
            if ("srwipgon".indexOf(c) < 0) throw new Fault(1, at);
            at++;
            return m -> m.get(c);
        }
    }
}
