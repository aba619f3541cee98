import java.util.ArrayList;
import java.util.List;

/** What is refused, and what only asks, changes nothing; and which answer is told first where several fit. */
public final class RefusedTest extends Office {
    private static final int LEAST = Integer.MIN_VALUE;
    private static final int MOST = Integer.MAX_VALUE;
    private static final String LAW_FED = "h3-s(1=1);t2(1=1)";

    /** A call by its number in a list of calls. */
    interface Calls {
        int answer(NineHoles x, int which);
    }

    public static void main(String[] args) {
        refused();
        asked();
        refusedButForTheTape();
        firstIsNone();
        noneOrFault();
        secondsFirst();
        thirdsFirst();
        placesOfAnswers();
        anyArguments();
        end("RefusedTest");
    }

    /** Something in all that is held: five letters of which two come, ranks, a rack, a law, goes, one that is kept, a tape. */
    private static NineHoles busy() {
        NineHoles x = heap(2, 0, 1);
        x.letter(3, 40, 2);
        x.letter(4, 50, 6);
        x.rank(0, 7);
        x.rack(4, 5);
        law(x, "hs+g(1=1);tw+1(1=1);z(i=2&g=1)");
        x.goes(1);
        x.seed(99);
        x.keep();
        x.goes(1);
        x.shuffle();
        feed(x, bytes(LAW_FED));
        return x;
    }

    /** All that can be asked of it, the tape and what is kept too: so it is asked but once. */
    private static List<Integer> allOf(NineHoles x) {
        List<Integer> all = new ArrayList<>();
        heapOf(x, all);
        all.add(x.law(LAW_FED.length()));
        heapOf(x, all);
        all.add(one(x.undo()));
        heapOf(x, all);
        return all;
    }

    private static void heapOf(NineHoles x, List<Integer> all) {
        for (int what = 0; what < 10; what++) all.add(x.count(what));
        for (int s = 0; s < 20; s++) all.add(x.count(20 + s));
        for (int place = 0; place < 6; place++) all.add(x.at(place));
        for (int i = 0; i < 6; i++) for (int what = 0; what < 5; what++) all.add(x.letterIs(i, what));
        for (int what = 0; what < 4; what++) all.add(x.tried(3, what));
        for (int place = 0; place < 6; place++) all.add(x.tried(3, 10 + place));
    }

    private static int one(boolean answer) {
        return answer ? 1 : 0;
    }

    private static void dueUntouched(String what, Calls calls, int many, int... answers) {
        about(what);
        List<Integer> untouched = allOf(busy());
        for (int which = 0; which < many; which++) {
            NineHoles x = busy();
            int answer = calls.answer(x, which);
            if (answers.length > 0) due("call " + which, answer, answers[answers.length == 1 ? 0 : which]);
            due("call " + which + " changes nothing", allOf(x).equals(untouched), true);
        }
    }

    private static void refused() {
        int[][] letters = {{-1, 0, 0}, {20, 0, 0}, {0, -1, 0}, {0, 100, 0}, {0, 0, -1}, {0, 0, 13}, {0, 0, 1}, {0, 0, 2}};
        dueUntouched("letter, refused, changes nothing", (x, k) -> x.letter(letters[k][0], letters[k][1], letters[k][2]), letters.length, -1);
        int[][] pairs = {{-1, 0}, {20, 0}, {0, -1}, {0, 20}, {LEAST, 0}, {0, MOST}};
        dueUntouched("rank, refused, changes nothing", (x, k) -> one(x.rank(pairs[k][0], pairs[k][1])), pairs.length, 0);
        int[][] racks = {{0, 0}, {10, 0}, {3, 8}, {3, -1}, {-1, 0}, {9, 512}, {1, 2}};
        dueUntouched("rack, refused, changes nothing", (x, k) -> one(x.rack(racks[k][0], racks[k][1])), racks.length, 0);
        int[] lengths = {0, -1, 201, 21, LEAST, MOST};
        dueUntouched("law: no such n, not so many: the tape stays", (x, k) -> x.law(lengths[k]), lengths.length, -1);
        int[] orders = {0, 3, 5, 20, 21, -1, 33, LEAST, MOST};
        dueUntouched("order: another n: the tape stays", (x, k) -> one(x.order(orders[k])), orders.length, 0);
        int[] goes = {0, -1, 11, 12, 13, LEAST, MOST};
        dueUntouched("goes, refused, changes nothing", (x, k) -> x.goes(goes[k]), goes.length, -1);
        int[][] badly = {{0, 0}, {7, 0}, {1, -2}, {1, 3}, {-1, -1}, {LEAST, 0}, {MOST, 0}, {1, LEAST}, {1, MOST}};
        dueUntouched("badly, refused: the tape stays", (x, k) -> x.badly(badly[k][0], badly[k][1]), badly.length, -1);
        int[] seeds = {-1, 65536, LEAST, MOST};
        dueUntouched("seed, refused, changes nothing", (x, k) -> one(x.seed(seeds[k])), seeds.length, 0);
        int[] checks = {-1, 33, 6, 32, LEAST, MOST};
        dueUntouched("check: no such n, not so many: the tape stays", (x, k) -> x.check(checks[k]), checks.length, -2);
        fullOnes();
    }

    private static void fullOnes() {
        about("letter, refused as 32 are there, changes nothing");
        NineHoles full = heapOf(32);
        full.letter(3, 3, 0);
        full.letter(3, 3, 5);
        due("letters", full.count(0), 32);
        due("in the heap", full.count(1), 32);
        due("weights", full.count(9), 32);
        due("the last one's street", full.letterIs(31, 0), 11);
        full.goes(5);
        due("none comes", full.count(1), 32);

        about("planDone, where there is no PLAN, changes nothing");
        NineHoles x = heap(2, 1, 2);
        x.rack(1, 0);
        due("none", x.planDone(), -2);
        dueHeap("as it was", x, 0, 1, 2);

        about("undo, where none was KEPT, changes nothing");
        NineHoles y = heap(2, 1);
        y.goes(1);
        y.seed(5);
        due("false", y.undo(), false);
        due("go", y.count(2), 1);
        due("X", y.count(5), 5);
        dueHeap("heap", y, 0, 1);

        about("badly: not so many: the tape stays");
        NineHoles z = heapOf(21);
        feed(z, 0, 1, 2);
        due("20 for 21", z.badly(1, 0), -1);
        due("the tape", z.count(4), 20);
        due("its bytes", z.check(1), 0);
    }

    private static void asked() {
        dueUntouched("letterIs, at, count change nothing", (x, k) -> k < 5 ? x.letterIs(k % 2, k) : k == 5 ? x.at(0) : x.count(k), 9);
        dueUntouched("tried changes nothing", (x, k) -> x.tried(1 + k, k < 4 ? k : 6 + k), 8);
        dueUntouched("out, forAny, runs change nothing", (x, k) -> k == 0 ? x.out() : k == 1 ? x.forAny(99, 2) : x.runs(k - 2), 4);
        dueUntouched("plan, planned change nothing", (x, k) -> k == 0 ? x.plan() : x.planned(k - 1, 0), 6);
        dueUntouched("tables, table change nothing", (x, k) -> k == 0 ? x.tables(0, 19, 3) : x.table(0, 19, 3, k - 1), 4);
        dueUntouched("yards change nothing", (x, k) -> k == 0 ? x.yardQueues() : k == 1 ? x.yardPipes() : x.yard(4, k - 3), 7);
        dueUntouched("together changes nothing", (x, k) -> x.together(k - 1), 6);
        dueUntouched("blunder changes nothing", (x, k) -> x.blunder(4, k % 4, k % 5, k % 3, k % 3), 20);
        dueUntouched("clerks changes nothing", (x, k) -> x.clerks(k - 1), 7);
        dueUntouched("wanted changes nothing", (x, k) -> x.wanted(1 << k), 6);
    }

    /** What reads the tape empties it, and changes nothing else where it is refused. */
    private static void refusedButForTheTape() {
        about("order, refused for its LETTERS: but for the tape nothing is changed");
        List<Integer> untouched = allOf(emptied(busy()));
        int[][] orders = {{0, 1, 2, 2}, {0, 1, 2, 4}, {0, 1, 2, 5}, {255, 1, 2, 3}, {3, 3, 3, 3}};
        for (int[] told : orders) {
            NineHoles x = busy();
            due("false", order(x, told), false);
            due("the tape", x.count(4), 0);
            due("all else", allOf(x).equals(untouched), true);
        }

        about("law, a FAULT: but for the tape nothing is changed");
        for (String text : new String[] {"z", "h123456", "z(((((((", "z(s=0);z(s=0)z"}) {
            NineHoles x = busy();
            due(text, law(x, text) <= -1000, true);
            due("all else", allOf(x).equals(untouched), true);
        }

        about("badly: but for the tape nothing is changed");
        int[][] told = {{0, 1, 2, 3}, {3, 2, 1, 0}, {0, 2, 1, 3}, {0, 0, 0, 0}, {9, 9, 9, 9}};
        for (int[] t : told) {
            for (int what = -1; what <= 2; what++) {
                NineHoles x = busy();
                badly(x, 3, what, t[0], t[1], t[2], t[3]);
                due("all else", allOf(x).equals(untouched), true);
            }
        }

        about("check: but for the tape nothing is changed");
        for (int n = 0; n <= 5; n++) {
            NineHoles x = busy();
            check(x, n, 3, 2, 1, 0, 7);
            due("all else", allOf(x).equals(untouched), true);
        }
    }

    private static NineHoles emptied(NineHoles x) {
        x.check(0);
        return x;
    }

    private static void firstIsNone() {
        about("NONE is told first: letterIs");
        NineHoles x = heap(5);
        x.letter(6, 0, 3);
        due("no such what of one that has not come", x.letterIs(1, 5), -1);
        due("no such letter, its place", x.letterIs(2, 2), -1);
        due("no such letter, its hole now", x.letterIs(2, 4), -1);

        about("NONE is told first: tried");
        due("no such n, no such place", x.tried(0, 41), -1);
        due("no such n, no such place", x.tried(13, 41), -1);
        NineHoles late = heap(5);
        late.goes(12);
        due("above 12, no such place", late.tried(1, 41), -1);

        about("NONE is told first: forAny");
        due("no such streets by one queue", x.forAny(10001, 1), -1);
        due("no such streets by one queue", x.forAny(0, 1), -1);

        about("NONE is told first: planned");
        NineHoles stuck = heap(2, 1, 2);
        stuck.rack(1, 0);
        due("no such letter, no plan", stuck.planned(3, 0), -1);
        due("no such letter, no such go", stuck.planned(-1, 9), -1);

        about("NONE is told first: tables, table");
        due("a above b, it can't be", stuck.tables(2, 1, 1), -1);
        due("no such d, it can't be", stuck.tables(1, 2, 0), -1);
        due("no such d, nothing is thrown", stuck.table(5, 6, 13, 0), -1);
        due("no such hole, nothing is thrown", stuck.table(5, 6, 1, 9), -1);
        due("it can't be, no such hole is used", stuck.table(1, 2, 1, 8), -1);

        about("NONE is told first: yard");
        due("no such n, no such place", stuck.yard(11, 12), -1);
        due("not so many, no such place", stuck.yard(4, 4), -1);
        due("no such n, can't", stuck.yard(0, 0), -1);
        firstIsNoneOfGoes();
    }

    private static void firstIsNoneOfGoes() {
        NineHoles x = heap(5);
        x.letter(6, 0, 3);
        about("NONE is told first: blunder");
        due("no such what, into that hole anyway", x.blunder(1, 0, 0, 0, 3), -1);
        due("no such hole, has not come", x.blunder(1, 0, 1, 9, 0), -1);
        due("no such k, has not come", x.blunder(1, 1, 1, 5, 0), -1);
        due("no such n, into that hole anyway", x.blunder(13, 0, 0, 0, 0), -1);
        NineHoles end = heap(5);
        end.goes(12);
        due("above 12, into that hole anyway", end.blunder(1, 0, 0, 0, 0), -1);

        about("NONE is told first: badly");
        feed(x, 0, 1);
        due("no such what, as it should be", x.badly(1, 3), -1);
        due("no such n, as it should be", x.badly(7, 0), -1);
        feed(end, 0, 1);
        due("above 12, as it should be", end.badly(1, 0), -1);
        due("above 12, how many", end.badly(1, -1), -1);

        about("NONE is told first: clerks");
        due("go 12, no such k", end.clerks(2), -1);
        due("go 12, no such k", end.clerks(-2), -1);

        about("NONE is told first: wanted");
        due("no such streets, none of them there", x.wanted(0), -1);
        due("no such streets, none of them there", x.wanted(1 << 20), -1);
    }

    private static void noneOrFault() {
        about("NONE is told ahead of a FAULT: law");
        NineHoles x = new NineHoles();
        for (int k = 0; k < 11; k++) x.feed(-1, -1, -1, -1, -1);
        due("no such n of a faulty text", x.law(201), -1);
        due("no such n of a faulty text", x.law(0), -1);
        due("the fault", x.law(200), -1000);
        x.feed(-1, -1, -1, -1, -1);
        due("not so many of a faulty text", x.law(21), -1);
    }

    private static void secondsFirst() {
        about("-2 is told ahead of -3: together");
        due("no streets, no such place", heap().together(5), -2);
        due("nine streets, no such place", heapOf(9).together(9), -2);
        due("eight streets, no such place", heapOf(8).together(8), -3);
    }

    private static void thirdsFirst() {
        about("in yard() -3 ahead of -2");
        NineHoles x = heap(2, 1, 0);
        x.rack(1, 0);
        due("can't, no such place", x.yard(3, 3), -3);
        due("can't, no such place", x.yard(2, -2), -3);
        due("can't", x.yard(3, 2), -2);

        about("in badly() -3 ahead of -2");
        x.rack(1, 0);
        for (int what = -1; what <= 2; what++) due("as it should be, and no blunder could be", badly(x, 1, what, 0, 1, 2), -3);
        NineHoles none = new NineHoles();
        for (int what = -1; what <= 2; what++) due("no letters", none.badly(6, what), -3);
    }

    private static void placesOfAnswers() {
        about("what is told in the place of NONE is told first: check");
        NineHoles x = heap(5, 6);
        due("33, of which the first is wrong", check(x, 33, 9), -2);
        due("not so many, of which the first is wrong", check(x, 6, 9, 9, 9, 9, 9), -2);

        about("what is told in the place of NONE is told first: order");
        feed(x, 9, 9);
        due("another n", x.order(3), false);
        due("the tape stays", x.count(4), 40);
    }

    /** Whatever is asked in whatever state: an answer, and none that is not promised. */
    private static void anyArguments() {
        int[] odd = {LEAST, LEAST + 1, -33, -2, -1, 0, 1, 8, 9, 31, 32, 220, 65536, MOST - 1, MOST};
        for (int sort = 0; sort < 3; sort++) {
            about("no call throws for any arguments, office " + sort);
            for (int a : odd) {
                NineHoles x = sort == 0 ? new NineHoles() : sort == 1 ? busy() : heapOf(32);
                oneNumber(x, a);
                twoNumbers(x, a, odd);
                due("at most 32 letters with " + a, x.count(0) <= 32, true);
                due("at most 12 goes with " + a, x.count(2) <= 12, true);
            }
        }
    }

    private static void oneNumber(NineHoles x, int a) {
        x.feed(a, a, a, a, a);
        x.law(a);
        x.order(a);
        x.at(a);
        x.runs(a);
        x.together(a);
        x.clerks(a);
        x.wanted(a);
        x.seed(a);
        x.check(a);
        x.count(a);
        x.goes(a);
    }

    private static void twoNumbers(NineHoles x, int a, int[] odd) {
        for (int b : odd) {
            x.letter(a, b, b);
            x.rank(a, b);
            x.rack(a, b);
            x.letterIs(a, b);
            x.tried(a, b);
            x.forAny(a, b);
            x.planned(a, b);
            x.tables(a, b, a);
            x.table(a, b, b, a);
            x.yard(a, b);
            x.blunder(a, b, a, b, a);
            x.blunder(b, a, b, a, b);
            x.badly(a, b);
        }
        x.plan();
        x.planDone();
        x.yardQueues();
        x.yardPipes();
        x.shuffle();
        x.undo();
    }
}
