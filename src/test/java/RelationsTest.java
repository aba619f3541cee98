import java.util.ArrayList;
import java.util.List;

/** One promise held against others: what is called fewest, least or best against all there are, each done by plain calls. */
public final class RelationsTest extends Office {
    private static final String[] LAWS = {"hs%n(1=1);t1+w%5(1=1)", "h[s+g]%n(1=1);z(w>90);tw(s>3);t7(1=1)",
        "ho+1(o<n);hr/2(p>2);hi%n(1=1);t3(1=1)", "hp%n(g=1|g=3);hw/9(1=1);z(w%7=3&g<2);t9-o(1=1)", "t5(w<50);h[i+p]%n(s>1)"};
    private static int row = 20;

    private static int upTo(int n) {
        row = row * 1103515245 + 12345;
        return (row >>> 8) % n;
    }

    /** Some office's letters, rack and law: an object is good for 512 calls alone, so it is made anew as often as need be. */
    private record Desk(int[] streets, int[] weights, int[] comes, int holes, int pipes, String law) {
        static Desk any(int most, int streets, int holes, boolean late) {
            int many = upTo(most + 1);
            Desk d = new Desk(new int[many], new int[many], new int[many], 1 + upTo(holes), upTo(1 << 9), LAWS[upTo(LAWS.length)]);
            for (int i = 0; i < many; i++) {
                d.streets[i] = upTo(streets);
                d.weights[i] = upTo(100);
                d.comes[i] = late && upTo(3) == 0 ? upTo(4) : 0;
            }
            return new Desk(d.streets, d.weights, d.comes, d.holes, d.pipes & (1 << d.holes) - 1, d.law);
        }

        Desk withLaw(String other) {
            return new Desk(streets, weights, comes, holes, pipes, other);
        }

        int many() {
            return streets.length;
        }

        NineHoles office() {
            NineHoles x = new NineHoles();
            for (int i = 0; i < many(); i++) due("a letter", x.letter(streets[i], weights[i], comes[i]), i);
            due("a rack", x.rack(holes, pipes), true);
            due("a law", RelationsTest.law(x, law) > 0, true);
            return x;
        }

        int lettersFrom(int a, int b) {
            int found = 0;
            for (int s : streets) found += s >= a && s <= b ? 1 : 0;
            return found;
        }

        int streetsFrom(int a, int b) {
            int found = 0;
            for (int s = a; s <= b; s++) found += lettersFrom(s, s) > 0 ? 1 : 0;
            return found;
        }
    }

    public static void main(String[] args) {
        triedAndGone();
        forAnyAndPlan();
        runsTurnedRound();
        plansByLaws();
        tablesByTables();
        yardsByRacks();
        yardByEmptying();
        togetherByRanks();
        blundersByLaws();
        badlyByLaws();
        clerksByShares();
        wantedByLaws();
        toldAndChecked();
        end("RelationsTest");
    }

    private static List<Integer> heapOf(NineHoles x) {
        List<Integer> heap = new ArrayList<>();
        for (int p = 0; p < x.count(1); p++) heap.add(x.at(p));
        return heap;
    }

    private static List<Integer> heapBehind(NineHoles x, int n) {
        List<Integer> heap = new ArrayList<>();
        for (int p = 0; p < 32 && x.tried(n, 10 + p) >= 0; p++) heap.add(x.tried(n, 10 + p));
        return heap;
    }

    private static void dueSame(String what, List<Integer> got, List<Integer> want) {
        due(what + " " + got + " and " + want, got.equals(want), true);
    }

    private static void triedAndGone() {
        about("what is tried is what goes do; so many goes at once are as many one by one");
        for (int turn = 0; turn < 60; turn++) {
            Desk d = Desk.any(12, 20, 9, true);
            int n = 1 + upTo(12);
            NineHoles x = d.office();
            NineHoles y = d.office();
            int[] told = {x.tried(n, 0), x.tried(n, 3)};
            List<Integer> behind = heapBehind(x, n);
            int seconds = 0;
            int load = 0;
            int thrown = 0;
            for (int k = 0; k < n; k++) {
                load += y.tried(1, 1);
                thrown += y.tried(1, 2);
                seconds += y.goes(1);
            }
            due("seconds one by one", seconds, told[0]);
            due("load one by one", load, x.tried(n, 1));
            due("throws one by one", thrown, x.tried(n, 2));
            due("seconds", x.goes(n), told[0]);
            due("out", x.out(), told[1]);
            dueSame("heaps", heapOf(x), behind);
            dueSame("heaps", heapOf(y), behind);
            for (int i = 0; i < d.many(); i++) due("last hole", x.letterIs(i, 3), y.letterIs(i, 3));
        }
        about("the hole into which a letter would be thrown now is the hole of its last throw behind the go");
        for (int turn = 0; turn < 60; turn++) {
            NineHoles x = Desk.any(12, 20, 9, true).office();
            for (int k = 0; k < 3; k++) {
                int[] now = new int[x.count(0)];
                for (int i = 0; i < now.length; i++) now[i] = x.letterIs(i, 4) == -2 ? x.letterIs(i, 3) : x.letterIs(i, 4);
                boolean[] there = new boolean[now.length];
                for (int i = 0; i < now.length; i++) there[i] = x.letterIs(i, 2) != -2;
                x.goes(1);
                for (int i = 0; i < now.length; i++) if (there[i]) due("last hole", x.letterIs(i, 3), now[i]);
            }
        }
    }

    private static void forAnyAndPlan() {
        about("falling streets need the goes that any order of them may need");
        for (int h = 2; h <= 9; h++) {
            for (int s = 1; s <= 20; s++) {
                NineHoles x = falling(s);
                x.rack(h, 0);
                due(s + " streets by " + h, x.plan(), x.forAny(s, h));
            }
        }
        NineHoles one = falling(2);
        one.rack(1, 0);
        due("one queue", one.plan(), one.forAny(2, 1));
    }

    private static void runsTurnedRound() {
        about("what runs forward runs backward when the heap is turned round");
        for (int turn = 0; turn < 60; turn++) {
            NineHoles x = Desk.any(14, 8, 9, false).office();
            int[] round = new int[x.count(1)];
            for (int p = 0; p < round.length; p++) round[p] = x.at(round.length - 1 - p);
            int forward = x.runs(0);
            int backward = x.runs(1);
            due("turned", order(x, round), true);
            due("backward", x.runs(1), forward);
            due("forward", x.runs(0), backward);
        }
    }

    // ---- plans

    private static void plansByLaws() {
        about("a plan done by laws, go by go, is the plan done, and sorts; no fewer goes do, whatever way each rank goes");
        for (int turn = 0; turn < 150; turn++) {
            Desk d = Desk.any(6, 4, 3, false).withLaw("h0(1=1)");
            NineHoles x = d.office();
            int goes = x.plan();
            int tries = goes >= 0 ? goes : d.holes == 1 ? 6 : 3;
            for (int g = 0; g < tries && Math.pow(d.holes, 4 * g) < 7000; g++) {
                due("by " + g + " goes", anySorts(d, g), false);
            }
            if (goes < 0) continue;
            String[] laws = new String[goes];
            for (int k = 0; k < goes; k++) {
                StringBuilder text = new StringBuilder("z(1=2)");
                for (int i = 0; i < d.many(); i++) text.append(";h").append(x.planned(i, k)).append("(i=").append(i).append(')');
                laws[k] = text.toString();
            }
            NineHoles y = d.office();
            for (String law : laws) {
                due("a law", law(y, law), d.many() + 1);
                y.goes(1);
            }
            due("goes", x.planDone(), goes);
            due("in order", x.out(), -1);
            dueSame("heaps", heapOf(x), heapOf(y));
        }
    }

    private static boolean anySorts(Desk d, int goes) {
        int ways = (int) Math.pow(d.holes, goes);
        for (int all = 0; all < Math.pow(ways, 4); all++) {
            int[] way = {all % ways, all / ways % ways, all / ways / ways % ways, all / ways / ways / ways};
            if (sorts(d, goes, way)) return true;
        }
        return false;
    }

    private static boolean sorts(Desk d, int goes, int[] wayOf) {
        List<Integer> heap = new ArrayList<>();
        for (int s : d.streets) heap.add(s);
        for (int k = 0, share = 1; k < goes; k++, share *= d.holes) {
            List<Integer> next = new ArrayList<>();
            for (int hole = 0; hole < d.holes; hole++) {
                int start = next.size();
                boolean pipe = (d.pipes >> hole & 1) != 0;
                for (int s : heap) if (wayOf[s] / share % d.holes == hole) next.add(pipe ? start : next.size(), s);
            }
            heap = next;
        }
        for (int p = 1; p < heap.size(); p++) if (heap.get(p) < heap.get(p - 1)) return false;
        return true;
    }

    // ---- tables

    private static void tablesByTables() {
        about("tables need the letters' throws and what each hole's heap needs by a go less, and the least such sum");
        for (int turn = 0; turn < 80; turn++) {
            Desk d = Desk.any(16, 6, 4, false);
            int goes = 1 + upTo(4);
            NineHoles x = d.office();
            int[] best = null;
            int least = -2;
            boolean thrown = d.streetsFrom(0, 5) > 1;
            if (!thrown) least = 0;
            for (int cut = 0; thrown && cut < 32; cut++) {
                int[] firsts = firsts(cut);
                int sum = firsts.length > d.holes ? -2 : sumOf(d, x, firsts, goes - 1);
                if (sum >= 0 && (least < 0 || sum < least || sum == least && isAhead(firsts, best))) {
                    best = firsts;
                    least = sum;
                }
            }
            NineHoles y = d.office();
            due("tables", y.tables(0, 5, goes), least);
            for (int k = 0; k < 9; k++) {
                int want = least == -2 ? -1 : best == null || k >= best.length ? -2 : best[k];
                due("table " + k, y.table(0, 5, goes, k), want);
            }
        }
    }

    private static int[] firsts(int cut) {
        int[] firsts = new int[Integer.bitCount(cut) + 1];
        int used = 1;
        for (int s = 1; s < 6; s++) if ((cut >> s - 1 & 1) != 0) firsts[used++] = s;
        return firsts;
    }

    private static int sumOf(Desk d, NineHoles x, int[] firsts, int goes) {
        int sum = d.many();
        for (int k = 0; k < firsts.length; k++) {
            int b = k + 1 < firsts.length ? firsts[k + 1] - 1 : 5;
            int need = goes > 0 ? x.tables(firsts[k], b, goes) : d.streetsFrom(firsts[k], b) <= 1 ? 0 : -2;
            if (need < 0) return -2;
            sum += need;
        }
        return sum;
    }

    private static boolean isAhead(int[] a, int[] b) {
        if (a.length != b.length) return a.length < b.length;
        for (int k = 0; k < a.length; k++) if (a[k] != b[k]) return a[k] < b[k];
        return false;
    }

    // ---- yards

    private static void yardsByRacks() {
        about("a rack of queues (pipes) alone is enough from the fewest holes on");
        for (int turn = 0; turn < 80; turn++) {
            Desk d = Desk.any(10, 12, 9, false);
            if (d.many() == 0) continue;
            NineHoles x = d.office();
            for (int holes = 1; holes <= 9; holes++) {
                x.rack(holes, 0);
                due(holes + " queues", x.yard(d.many(), -1), x.yardQueues() <= holes ? 1 : 0);
                x.rack(holes, (1 << holes) - 1);
                due(holes + " pipes", x.yard(d.many(), -1), x.yardPipes() <= holes ? 1 : 0);
            }
        }
    }

    private static void yardByEmptying() {
        about("the first row of holes, of all there are, that can be emptied in order");
        for (int turn = 0; turn < 120; turn++) {
            Desk d = Desk.any(6, 6, 3, false);
            if (d.many() == 0) continue;
            int[] row = new int[d.many()];
            boolean can = canEmpty(d, row);
            while (!can && stepOn(row, d.holes)) can = canEmpty(d, row);
            NineHoles x = d.office();
            due("can", x.yard(d.many(), -1), can ? 1 : 0);
            for (int p = 0; p < d.many(); p++) due("place " + p, x.yard(d.many(), p), can ? row[p] : -2);
        }
    }

    private static boolean stepOn(int[] row, int holes) {
        int p = row.length - 1;
        while (p >= 0 && row[p] == holes - 1) row[p--] = 0;
        if (p >= 0) row[p]++;
        return p >= 0;
    }

    private static boolean canEmpty(Desk d, int[] row) {
        for (int j = 0; j < row.length; j++) {
            for (int i = 0; i < j; i++) {
                boolean pipe = (d.pipes >> row[j] & 1) != 0;
                if (row[i] == row[j] && (pipe ? d.streets[j] > d.streets[i] : d.streets[j] < d.streets[i])) return false;
            }
        }
        return true;
    }

    // ---- together

    private static void togetherByRanks() {
        about("streets that need only lie together: ranks in each order there is, and the runs by them");
        for (int turn = 0; turn < 40; turn++) {
            Desk d = Desk.any(12, 5, 9, false);
            int[] present = new int[d.streetsFrom(0, 4)];
            int used = 0;
            for (int s = 0; s < 5; s++) if (d.lettersFrom(s, s) > 0) present[used++] = s;
            int[] best = null;
            int fewest = -2;
            int[] order = new int[used];
            do {
                int seen = 0;
                for (int k : order) seen |= 1 << k;
                if (Integer.bitCount(seen) != used || used == 0) continue;
                NineHoles x = d.office();
                for (int k = 0; k < used; k++) x.rank(present[order[k]], k);
                if (best == null || x.runs(0) < fewest) {
                    best = order.clone();
                    fewest = x.runs(0);
                }
            } while (stepOn(order, used));
            NineHoles x = d.office();
            due("runs", x.together(-1), fewest);
            for (int k = 0; k < used; k++) due("street " + k, x.together(k), present[best[k]]);
        }
    }

    // ---- blunders

    /** A law whose first clause is the blunder. */
    private static NineHoles wrongOffice(Desk d, int k, int i, int hole) {
        return d.withLaw("h" + hole + "(g=" + k + "&i=" + i + ");" + d.law).office();
    }

    private static void blundersByLaws() {
        about("a blunder is what a law does that has a clause for it ahead of the others");
        for (int turn = 0; turn < 60; turn++) {
            Desk d = Desk.any(8, 8, 9, true);
            if (d.many() == 0) continue;
            int n = 1 + upTo(4);
            int k = upTo(n);
            int i = upTo(d.many());
            List<Integer> right = heapBehind(d.office(), n);
            NineHoles ahead = d.office();
            if (k > 0) ahead.goes(k);
            for (int hole = 0; hole < d.holes; hole++) {
                NineHoles x = d.office();
                List<Integer> wrong = heapBehind(wrongOffice(d, k, i, hole), n);
                int place = x.blunder(n, k, i, hole, 0);
                if (place == -2) {
                    boolean thrown = ahead.letterIs(i, 4) != -2 && ahead.letterIs(i, 4) != hole;
                    due("no blunder", thrown, false);
                    dueSame("heaps", wrong, right);
                    continue;
                }
                due("it is in the heap", right.contains(i), true);
                due("where", place, wrong.indexOf(i));
                due("how far", x.blunder(n, k, i, hole, 1), Math.abs(wrong.indexOf(i) - right.indexOf(i)));
                int others = 0;
                for (int j : right) others += j != i && right.indexOf(j) != wrong.indexOf(j) ? 1 : 0;
                due("others", x.blunder(n, k, i, hole, 2), others);
            }
        }
    }

    private static void badlyByLaws() {
        about("who threw badly: all blunders, each by a law of its own");
        for (int turn = 0; turn < 60; turn++) {
            Desk d = Desk.any(6, 6, 4, true);
            if (d.many() == 0) continue;
            int n = 1 + upTo(3);
            List<Integer> right = heapBehind(d.office(), n);
            List<Integer> told = heapBehind(wrongOffice(d, upTo(n), upTo(d.many()), upTo(d.holes)), n);
            int[] first = {-2, -2, -2};
            int many = 0;
            for (int k = 0; k < n; k++) {
                for (int i = 0; i < d.many(); i++) {
                    for (int hole = 0; hole < d.holes; hole++) {
                        boolean is = d.office().blunder(n, k, i, hole, 0) >= 0;
                        if (!is || !heapBehind(wrongOffice(d, k, i, hole), n).equals(told)) continue;
                        if (many++ == 0) first = new int[] {k, i, hole};
                    }
                }
            }
            int[] bytes = told.stream().mapToInt(j -> j).toArray();
            boolean asDue = told.equals(right);
            NineHoles x = d.office();
            due("how many", badly(x, n, -1, bytes), asDue ? -3 : many);
            for (int what = 0; what < 3; what++) due("the first", badly(x, n, what, bytes), asDue ? -3 : first[what]);
        }
    }

    // ---- clerks, wanted

    private static void clerksByShares() {
        about("the best share of two clerks, of all shares; the first k letters need what a law that leaves out the rest needs");
        for (int turn = 0; turn < 60; turn++) {
            Desk d = Desk.any(12, 9, 9, true);
            NineHoles x = d.office();
            int there = heapBehind(x, 1).size();
            int best = 0;
            for (int k = 0; k <= there; k++) {
                int first = d.withLaw(d.law + ";z(p>" + k + "|p=" + k + ")").office().tried(1, 0);
                int second = d.withLaw(d.law + ";z(p<" + k + ")").office().tried(1, 0);
                due("the first " + k, x.clerks(k), Math.max(first, second));
                if (x.clerks(k) < x.clerks(best)) best = k;
            }
            due("best", x.clerks(-1), best);
            due("one more", x.clerks(there + 1), -2);
        }
    }

    private static void wantedByLaws() {
        about("wanted letters: what goes need that leave out those behind the last one, or all others");
        for (int turn = 0; turn < 80; turn++) {
            Desk d = Desk.any(12, 5, 9, false);
            int bits = 1 + upTo(31);
            int last = -1;
            for (int i = 0; i < d.many(); i++) if ((bits >> d.streets[i] & 1) != 0) last = i;
            if (last < 0) {
                due("wanted " + bits, d.office().wanted(bits), -2);
                continue;
            }
            int others = 0;
            for (int i = 0; i < last; i++) others += (bits >> d.streets[i] & 1) == 0 ? 1 : 0;
            StringBuilder isOther = new StringBuilder("p>" + last);
            for (int s = 0; s < 5; s++) if ((bits >> s & 1) == 0) isOther.append("|s=").append(s);
            String seconds = d.law.replaceAll("z\\([^)]*\\);?", "");
            int all = d.withLaw(seconds + ";z(p>" + last + ")").office().tried(1, 0);
            int lying = others + d.withLaw(seconds + ";z(" + isOther + ")").office().tried(1, 0);
            due("wanted " + bits, d.office().wanted(bits), Math.min(all, lying));
        }
    }

    private static void toldAndChecked() {
        about("an order that is told is the heap then, and checks as right; kept and undone it is as it was");
        for (int turn = 0; turn < 60; turn++) {
            NineHoles x = Desk.any(30, 20, 9, false).office();
            List<Integer> before = heapOf(x);
            x.keep();
            x.shuffle();
            int[] shuffled = heapOf(x).stream().mapToInt(j -> j).toArray();
            due("right", check(x, shuffled.length, shuffled), -1);
            due("undone", x.undo(), true);
            dueSame("heaps", heapOf(x), before);
            due("told", order(x, shuffled), true);
            due("right", check(x, shuffled.length, shuffled), -1);
        }
    }
}
