import java.util.function.IntUnaryOperator;

/** Each sentence of the document that names a boundary by itself, but for what a law may hold and what is refused. */
public final class BoundariesTest extends Office {
    private static final int LEAST = Integer.MIN_VALUE;
    private static final int MOST = Integer.MAX_VALUE;
    private static final String[] LAWS = {"hs(1=1)", "ho+1(o<9);hs(1=1)", "h[p+s]%n(1=1)", "h[o+p*2]%n(o<9);hp(1=1)", "hg+s(1=1);z(i=1&g=1)",
        "h[i+o]%3(o<9);h2-s(1=1)", "h[r+p*g]%n(1=1)", "z(p=0&g>0);h[s+o]%4(1=1)"};

    public static void main(String[] args) {
        aNewObject();
        letters();
        lateLetters();
        ranks();
        racks();
        tapes();
        orders();
        letterIs();
        places();
        goes();
        whatAGoDoes();
        tried();
        inOrder();
        forAny();
        runs();
        plans();
        ways();
        plansDone();
        tables();
        firstStreets();
        yardsOfOneSort();
        yards();
        together();
        blunders();
        blunderOrNone();
        badly();
        badlyByLaws();
        clerks();
        wanted();
        seeds();
        shuffled();
        keptAndUndone();
        checks();
        counts();
        end("BoundariesTest");
    }

    private static void dueEach(String what, IntUnaryOperator call, int want, int... values) {
        for (int v : values) due(what + " " + v, call.applyAsInt(v), want);
    }

    private static int one(boolean answer) {
        return answer ? 1 : 0;
    }

    private static void aNewObject() {
        about("NineHoles(): no LETTERS");
        NineHoles x = new NineHoles();
        due("letters", x.count(0), 0);
        due("in the heap", x.count(1), 0);
        due("on top", x.at(0), -1);
        due("letter 0", x.letterIs(0, 0), -1);
        due("the first number", x.letter(1, 1, 0), 0);

        about("NineHoles(): no LAW");
        due("clauses", new NineHoles().count(3), 0);

        about("NineHoles(): nine QUEUES");
        due("holes", new NineHoles().count(6), 9);
        due("pipes", new NineHoles().count(7), 0);
        NineHoles y = heap(0, 0, 0);
        y.goes(1);
        dueHeap("in hole 0", y, 0, 1, 2);

        about("NineHoles(): THE GO 0; THE SEED 1");
        due("go", new NineHoles().count(2), 0);
        due("X", new NineHoles().count(5), 1);

        about("RANKS: at first the STREET's number");
        for (int s = 0; s < 20; s++) due("street " + s, new NineHoles().count(20 + s), s);

        about("a new object's tape is empty, and none was KEPT");
        due("tape", new NineHoles().count(4), 0);
        due("undo", new NineHoles().undo(), false);

        about("NONE = -1");
        due("NONE", NineHoles.NONE, -1);
    }

    private static void letters() {
        about("letter: a STREET (0 to 19)");
        NineHoles x = new NineHoles();
        dueEach("street", s -> x.letter(s, 0, 0), -1, -1, 20, LEAST, MOST);
        for (int s = 0; s < 20; s++) due("street " + s, x.letter(s, 0, 0), s);
        for (int s = 0; s < 20; s++) due("its street", x.letterIs(s, 0), s);

        about("letter: a WEIGHT (0 to 99)");
        NineHoles y = new NineHoles();
        dueEach("weight", w -> y.letter(0, w, 0), -1, -1, 100, LEAST, MOST);
        due("0", y.letter(0, 0, 0), 0);
        due("99", y.letter(0, 99, 0), 1);
        due("0", y.letterIs(0, 1), 0);
        due("99", y.letterIs(1, 1), 99);

        about("letter: NONE: 32 are there");
        NineHoles z = new NineHoles();
        for (int i = 0; i < 32; i++) due("letter " + i, z.letter(0, 0, i % 2 == 0 ? 0 : 12), i);
        due("a 33rd that is there", z.letter(0, 0, 0), -1);
        due("a 33rd that comes", z.letter(0, 0, 12), -1);
        due("letters", z.count(0), 32);
        due("in the heap", z.count(1), 16);
        due("no letter 32", z.letterIs(32, 0), -1);
        z.goes(12);
        due("all in the heap", z.count(1), 32);
        due("a 33rd behind twelve goes", z.letter(0, 0, 0), -1);

        about("letter: one that is there comes behind THE HEAP");
        NineHoles w = heap(4, 5, 6);
        order(w, 2, 0, 1);
        due("number", w.letter(0, 0, 0), 3);
        dueHeap("behind", w, 2, 0, 1, 3);
    }

    private static void lateLetters() {
        about("letter: a GO ahead of which it COMES (0: it is there; 1 to 12)");
        NineHoles x = new NineHoles();
        dueEach("comes", c -> x.letter(0, 0, c), -1, -1, 13, LEAST, MOST);
        for (int c = 1; c <= 12; c++) due("comes " + c, x.letter(0, 0, c), c - 1);
        due("none is there", x.count(1), 0);
        for (int go = 1; go <= 12; go++) {
            due("one more can be tried", x.tried(1, 2), go);
            x.goes(1);
            due("has come ahead of go " + go, x.count(1), go);
            due("it stands behind", x.at(go - 1), go - 1);
        }

        about("letter: NONE: one that COMES ahead of a GO that has been");
        NineHoles y = new NineHoles();
        for (int go = 1; go <= 12; go++) {
            y.goes(1);
            due("ahead of go " + go, y.letter(0, 0, go), -1);
            due("ahead of go 1", y.letter(0, 0, 1), -1);
            due("there at once", y.letter(0, 0, 0), 2 * go - 2 - Math.max(0, go - 12));
            if (go < 12) due("ahead of the next", y.letter(0, 0, go + 1), 2 * go - 1);
        }
        due("behind go 12 none comes", y.letter(0, 0, 12), -1);
        due("nor ahead of a thirteenth", y.letter(0, 0, 13), -1);

        about("LETTERS that COME are put behind THE HEAP, by numbers");
        NineHoles z = new NineHoles();
        for (int c : new int[] {2, 1, 0, 2, 1}) z.letter(0, 0, c);
        z.goes(1);
        dueHeap("one go", z, 2, 1, 4);
        z.letter(0, 0, 2);
        z.goes(1);
        dueHeap("two goes", z, 2, 1, 4, 0, 3, 5);
        z.goes(10);
        dueHeap("they come once", z, 2, 1, 4, 0, 3, 5);
    }

    private static void ranks() {
        about("rank: false: no such STREET (0 to 19)");
        NineHoles x = new NineHoles();
        dueEach("street", s -> one(x.rank(s, 0)), 0, -1, 20, LEAST, MOST);
        due("street 0", x.rank(0, 7), true);
        due("street 19", x.rank(19, 8), true);
        due("of street 0", x.count(20), 7);
        due("of street 19", x.count(39), 8);

        about("rank: false: no such RANK (0 to 19)");
        dueEach("rank", r -> one(x.rank(5, r)), 0, -1, 20, LEAST, MOST);
        due("stays", x.count(25), 5);
        due("0", x.rank(5, 0), true);
        due("0", x.count(25), 0);
        due("19", x.rank(5, 19), true);
        due("19", x.count(25), 19);

        about("RANKS: more STREETS may have one");
        NineHoles y = falling(20);
        due("falling", y.out(), 1);
        for (int s = 0; s < 20; s++) due("street " + s, y.rank(s, 3), true);
        due("all have one", y.out(), -1);
        due("one row", y.runs(0), 1);
    }

    private static void racks() {
        about("rack: 1 to 9 HOLES");
        NineHoles x = new NineHoles();
        dueEach("holes", h -> one(x.rack(h, 0)), 0, 0, -1, 10, 32, 33, LEAST, MOST);
        due("as it was", x.count(6), 9);
        for (int h = 1; h <= 9; h++) {
            due(h + " holes", x.rack(h, 0), true);
            due("told", x.count(6), h);
        }

        about("rack: which of them are PIPES (bits)");
        for (int h = 1; h <= 9; h++) {
            NineHoles y = new NineHoles();
            due(h + " holes, one pipe too far", y.rack(h, 1 << h), false);
            due("and others with it", y.rack(h, 1 << h | 1), false);
            due("-1", y.rack(h, -1), false);
            due("far", y.rack(h, LEAST), false);
            due("far", y.rack(h, MOST), false);
            due("as it was", y.count(6), 9);
            due("all", y.rack(h, (1 << h) - 1), true);
            due("told", y.count(7), (1 << h) - 1);
            due("the last one", y.rack(h, 1 << h - 1), true);
            due("none", y.rack(h, 0), true);
        }

        about("rack: last HOLES stay");
        NineHoles z = heap(8);
        law(z, "h8(o=9);ho(1=1);to+1(1=1)");
        z.goes(1);
        z.rack(1, 1);
        due("8 of one hole", z.letterIs(0, 3), 8);
        due("o is 8", z.tried(1, 0), 9);
        z.goes(1);
        due("till the next throw", z.letterIs(0, 3), 0);
    }

    private static void tapes() {
        about("feed: how many it has; NONE if that would be more than 220");
        NineHoles x = new NineHoles();
        for (int k = 1; k <= 11; k++) due("feed " + k, x.feed(k, k, k, k, k), 20 * k);
        due("a twelfth", x.feed(9, 9, 9, 9, 9), -1);
        due("a thirteenth", x.feed(9, 9, 9, 9, 9), -1);
        due("all the same", x.count(4), 220);
        due("empty", x.check(0), -1);
        due("then it can be fed again", x.feed(0, 0, 0, 0, 0), 20);

        about("feed: a refused one leaves the bytes as they are");
        NineHoles y = heapOf(32);
        int[] all = new int[220];
        for (int i = 0; i < 32; i++) all[4 * i + 3] = i;
        feed(y, all);
        due("refused", y.feed(-1, -1, -1, -1, -1), -1);
        due("32 numbers", y.check(32), -1);

        about("feed: the highest of each int first");
        NineHoles z = heapOf(20);
        due("20", z.feed(0x13121110, 0x0f0e0d0c, 0x0b0a0908, 0x07060504, 0x03020100), 20);
        due("twenty bytes", z.order(20), true);
        for (int p = 0; p < 20; p++) due("place " + p, z.at(p), 19 - p);

        about("feed: bytes are 0 to 255, of an int below 0 too");
        NineHoles w = heap(1);
        w.feed(0x80ffffff, -1, -1, -1, -1);
        due("128 begins no clause", w.law(1), -1000);
        w.feed(-1, -1, -1, -1, -1);
        due("255 is no letter", w.order(1), false);
        w.feed(-1, 0, 0, 0, 0);
        due("-1 is not the letter", w.check(1), 0);

        about("feed: twenty bytes come behind the tape");
        NineHoles v = heap(1, 2);
        v.feed(0, 1, 0, 0, 0);
        v.feed(-1, -1, -1, -1, -1);
        due("the first ones lie ahead", v.check(2), -1);
    }

    private static void orders() {
        about("order: false: another n, the tape has not so many (it stays)");
        NineHoles x = heap(1, 2, 3);
        feed(x, 2, 1, 0);
        dueEach("n", n -> one(x.order(n)), 0, 2, 4, 0, -1, 32, 33, 220, LEAST, MOST);
        due("the tape stays", x.count(4), 20);
        due("its bytes, too", x.order(3), true);
        dueHeap("told", x, 2, 1, 0);
        due("of none", x.order(3), false);
        NineHoles many = heapOf(21);
        feed(many, new int[20]);
        due("20 for 21", many.order(21), false);
        due("the tape stays", many.count(4), 20);

        about("order: a tape of just so many");
        NineHoles twenty = heapOf(20);
        int[] told = new int[20];
        for (int p = 0; p < 20; p++) told[p] = (p + 7) % 20;
        due("20 for 20", order(twenty, told), true);
        dueHeap("told", twenty, told);

        about("order: false: another LETTER");
        NineHoles y = heap(1, 2);
        y.letter(3, 0, 1);
        for (int bad : new int[] {2, 3, 31, 32, 33, 64, 128, 255}) {
            due("first is " + bad, order(y, bad, 1), false);
            due("the tape is empty then", y.count(4), 0);
            due("last is " + bad, order(y, 0, bad), false);
            dueHeap("as it was", y, 0, 1);
        }

        about("order: false: one twice");
        due("first", order(y, 0, 0), false);
        due("second", order(y, 1, 1), false);
        due("the tape is empty then", y.count(4), 0);
        dueHeap("as it was", y, 0, 1);

        about("order: those that have not come are not told");
        due("two of three", order(y, 1, 0), true);
        dueHeap("turned round", y, 1, 0);

        about("order: THE HEAP is empty");
        NineHoles none = new NineHoles();
        due("n 0 of an empty tape", none.order(0), true);
        feed(none, 1, 2, 3);
        due("n 1", none.order(1), false);
        due("the tape stays", none.count(4), 20);
        due("n 0 of twenty", none.order(0), true);
        due("empty then", none.count(4), 0);

        about("order: 32 LETTERS");
        NineHoles full = heapOf(32);
        int[] turned = new int[32];
        for (int p = 0; p < 32; p++) turned[p] = 31 - p;
        due("32", order(full, turned), true);
        due("on top", full.at(0), 31);
        due("last", full.at(31), 0);
        for (int last : new int[] {31, 32, 33, 255}) {
            turned[31] = last;
            due("last is " + last, order(full, turned), false);
        }
    }

    private static void letterIs() {
        about("letterIs: NONE for other LETTERS");
        NineHoles x = heap(4, 5);
        for (int what = 0; what <= 4; what++) {
            int asked = what;
            dueEach("what " + what + " of letter", i -> x.letterIs(i, asked), -1, -1, 2, 31, 32, LEAST, MOST);
        }
        due("the first", x.letterIs(0, 0), 4);
        due("the last", x.letterIs(1, 0), 5);

        about("letterIs: NONE for other whats");
        dueEach("what", w -> x.letterIs(0, w), -1, -1, 5, LEAST, MOST);

        about("letterIs: its place in THE HEAP (-2: it has not come)");
        NineHoles y = heap(4);
        y.letter(5, 6, 2);
        due("there", y.letterIs(0, 2), 0);
        due("not come", y.letterIs(1, 2), -2);
        due("its street all the same", y.letterIs(1, 0), 5);
        due("its weight all the same", y.letterIs(1, 1), 6);
        NineHoles none = new NineHoles();
        none.letter(5, 6, 2);
        due("nobody has come", none.letterIs(0, 2), -2);
        y.goes(1);
        due("not come yet", y.letterIs(1, 2), -2);
        y.goes(1);
        due("come", y.letterIs(1, 2), 1);

        about("letterIs: HOLE of its last throw (9: none)");
        NineHoles z = heap(4, 5);
        z.letter(6, 0, 3);
        law(z, "z(i=1);h8(g=1);h2(1=1)");
        due("none", z.letterIs(0, 3), 9);
        z.goes(1);
        due("thrown", z.letterIs(0, 3), 2);
        due("left out", z.letterIs(1, 3), 9);
        due("not come", z.letterIs(2, 3), 9);
        z.goes(1);
        due("the last one", z.letterIs(0, 3), 8);

        about("letterIs: the HOLE into which it would be thrown now (-2: left out, has not come)");
        NineHoles w = heap(4, 5);
        w.letter(6, 0, 1);
        law(w, "z(i=1);h5(g=0);h6(g>0)");
        due("thrown", w.letterIs(0, 4), 5);
        due("left out", w.letterIs(1, 4), -2);
        due("not come, though it comes ahead of the next go", w.letterIs(2, 4), -2);
        w.goes(12);
        due("behind go 12, too", w.letterIs(0, 4), 6);
    }

    private static void places() {
        about("at: NONE: no such place");
        NineHoles x = heap(4, 5);
        dueEach("place", x::at, -1, -1, 2, 31, 32, LEAST, MOST);
        due("the first", x.at(0), 0);
        due("the last", x.at(1), 1);
        dueEach("of none, place", new NineHoles()::at, -1, -1, 0, 1);
        NineHoles late = heap(4);
        late.letter(5, 0, 1);
        due("that of one that has not come", late.at(1), -1);
        NineHoles full = heapOf(32);
        due("31", full.at(31), 31);
        due("32", full.at(32), -1);
    }

    private static void goes() {
        about("goes: NONE: no such n (1 to 12)");
        NineHoles x = heap(1);
        dueEach("n", x::goes, -1, 0, -1, 13, LEAST, MOST);
        due("no go has been", x.count(2), 0);
        due("12", x.goes(12), 0);
        due("12 have been", x.count(2), 12);

        about("goes: NONE: THE GO would be above 12");
        for (int been = 1; been <= 12; been++) {
            NineHoles y = heap(1);
            law(y, "t1(1=1)");
            y.goes(been);
            due(13 - been + " behind " + been, y.goes(13 - been), -1);
            due("12 behind " + been, y.goes(12), -1);
            due("none more has been", y.count(2), been);
            if (been < 12) due(12 - been + " behind " + been, y.goes(12 - been), 12 - been);
        }

        about("goes: SECONDS of all");
        NineHoles z = heapOf(32);
        law(z, "t99(1=1)");
        due("32 letters, 12 goes", z.goes(12), 32 * 12 * 99);
        NineHoles none = new NineHoles();
        due("no letters", none.goes(12), 0);
        due("no letters, but 12 goes", none.count(2), 12);
    }

    private static void whatAGoDoes() {
        about("THE HEAP becomes: those left out, in their order; then what HOLE 0 gives back, HOLE 1, ..");
        NineHoles x = heap(1, 0, 1, 0, 2, 2);
        law(x, "hs(1=1);z(i>3)");
        x.goes(1);
        dueHeap("left out, 0, 1", x, 4, 5, 1, 3, 0, 2);
        NineHoles all = heap(3, 2, 1);
        law(all, "z(1=1)");
        due("all are left out", all.goes(1), 0);
        dueHeap("all are left out", all, 0, 1, 2);
        due("the go has been", all.count(2), 1);

        about("a QUEUE gives back the first first, a PIPE the last first");
        for (int holes = 1; holes <= 9; holes++) {
            for (int hole = 0; hole < holes; hole++) {
                NineHoles y = heap(0, 0, 0);
                law(y, "h" + hole + "(1=1)");
                y.rack(holes, 1 << hole);
                y.goes(1);
                dueHeap("a pipe", y, 2, 1, 0);
                y.rack(holes, (1 << holes) - 1 & ~(1 << hole));
                y.goes(1);
                dueHeap("a queue", y, 2, 1, 0);
            }
        }

        about("all asked as THE HEAP is then");
        NineHoles z = heap(0, 0, 0, 0);
        z.letter(0, 0, 1);
        law(z, "h8-p(1=1)");
        z.goes(1);
        dueHeap("by places ahead of the go, with the one that came", z, 4, 3, 2, 1, 0);

        about("SECONDS, LOAD, THROWS: of those that are thrown alone");
        NineHoles w = new NineHoles();
        w.letter(0, 99, 0);
        w.letter(1, 50, 0);
        w.letter(2, 3, 0);
        law(w, "z(s=1);t7(1=1)");
        due("seconds", w.tried(1, 0), 14);
        due("load", w.tried(1, 1), 102);
        due("throws", w.tried(1, 2), 2);
        due("of two goes", w.tried(2, 1), 204);
    }

    private static void tried() {
        about("tried: NONE: no such n (1 to 12)");
        NineHoles x = heap(1, 0);
        for (int what : new int[] {0, 1, 2, 3, 10, 41}) {
            dueEach("what " + what + ", n", n -> x.tried(n, what), -1, 0, -1, 13, LEAST, MOST);
        }
        due("1", x.tried(1, 2), 2);
        due("12", x.tried(12, 2), 24);

        about("tried: NONE: THE GO would be above 12");
        NineHoles y = heap(1);
        y.goes(5);
        due("7", y.tried(7, 2), 7);
        due("8", y.tried(8, 2), -1);
        y.goes(7);
        due("at 12", y.tried(1, 2), -1);

        about("tried: NONE: no such what");
        dueEach("what", w -> x.tried(1, w), -1, -1, 4, 5, 9, 42, 43, LEAST, MOST);

        about("tried: 10 + k the LETTER at place k then; -2: no such place");
        due("place 0", x.tried(1, 10), 0);
        due("place 1", x.tried(1, 11), 1);
        due("place 2", x.tried(1, 12), -2);
        due("place 31", x.tried(1, 41), -2);
        due("of none", new NineHoles().tried(1, 10), -2);
        NineHoles late = heap(0);
        late.letter(1, 0, 2);
        due("it has not come then", late.tried(1, 11), -2);
        due("it has come then", late.tried(2, 11), 1);
        due("32 are there", heapOf(32).tried(1, 41), 31);

        about("tried: OUT behind them (NONE: IN ORDER)");
        NineHoles z = heap(2, 1, 1);
        due("out", z.tried(1, 3), 1);
        law(z, "hs(1=1)");
        due("in order", z.tried(1, 3), -1);
        due("no letters", new NineHoles().tried(12, 3), -1);

        about("tried: nothing is done");
        due("the go", z.count(2), 0);
        dueHeap("the heap", z, 0, 1, 2);
        due("last holes", z.letterIs(0, 3), 9);
        due("not come", late.letterIs(1, 2), -2);
    }

    private static void inOrder() {
        about("IN ORDER is THE HEAP if no LETTER has a lower RANK than the one ahead of it");
        due("no letters", heap().out(), -1);
        due("one", heap(19).out(), -1);
        due("like ones", heap(7, 7, 7).out(), -1);
        due("rising", heap(0, 1, 2, 2, 19).out(), -1);
        due("late ones don't matter", heapWithLate().out(), -1);

        about("OUT is the first place whose LETTER has");
        due("the second", heap(1, 0).out(), 1);
        due("the first of two", heap(1, 1, 0, 1, 0).out(), 2);
        NineHoles x = new NineHoles();
        for (int i = 0; i < 31; i++) x.letter(9, 0, 0);
        x.letter(8, 0, 0);
        due("the last of 32", x.out(), 31);
        x.rank(8, 9);
        due("by ranks", x.out(), -1);
    }

    private static NineHoles heapWithLate() {
        NineHoles x = heap(5);
        x.letter(4, 0, 1);
        return x;
    }

    private static void forAny() {
        about("forAny: so many STREETS (1 to 10000)");
        NineHoles x = new NineHoles();
        dueEach("streets", s -> x.forAny(s, 2), -1, 0, -1, 10001, LEAST, MOST);
        due("1", x.forAny(1, 2), 0);
        due("10000", x.forAny(10000, 2), 14);

        about("forAny: h QUEUES (1 to 9)");
        dueEach("h", h -> x.forAny(5, h), -1, 0, -1, 10, LEAST, MOST);

        about("forAny: h 1: 0 for one, else none (-2)");
        due("one", x.forAny(1, 1), 0);
        dueEach("streets", s -> x.forAny(s, 1), -2, 2, 3, 10000);
        due("no such streets", x.forAny(0, 1), -1);
        due("no such streets", x.forAny(10001, 1), -1);

        about("forAny: the fewest GOES g by which h times itself g times is not below them");
        for (int h = 2; h <= 9; h++) {
            int goes = 0;
            for (int times = 1; times <= 10000; times *= h) {
                due(times + " by " + h, x.forAny(times, h), goes);
                goes++;
                if (times < 10000) due(times + 1 + " by " + h, x.forAny(times + 1, h), goes);
            }
            due("10000 by " + h, x.forAny(10000, h), goes);
        }
    }

    private static void runs() {
        about("runs: 0: no LETTERS");
        NineHoles none = new NineHoles();
        none.letter(3, 0, 2);
        due("forward", none.runs(0), 0);
        due("backward", none.runs(1), 0);

        about("runs: NONE: no such what");
        dueEach("what", heap(1)::runs, -1, -1, 2, LEAST, MOST);

        about("FORWARD: all LETTERS of each one lie ahead of all of the next one");
        due("one", heap(3).runs(0), 1);
        due("one rank", heap(3, 3, 3).runs(0), 1);
        due("just ahead", heap(0, 0, 1, 1).runs(0), 1);
        due("one of them is not", heap(0, 1, 0, 1).runs(0), 2);
        due("one of the first is last", heap(0, 1, 1, 0).runs(0), 2);
        due("ranks between are not in it", heap(0, 19).runs(0), 1);
        due("20 falling", falling(20).runs(0), 20);

        about("BACKWARD: behind all of it");
        due("one", heap(3).runs(1), 1);
        due("one rank", heap(3, 3, 3).runs(1), 1);
        due("just behind", heap(1, 1, 0, 0).runs(1), 1);
        due("one of them is not", heap(1, 0, 1, 0).runs(1), 2);
        due("one of the first is ahead", heap(0, 1, 1, 0).runs(1), 2);
        due("20 falling", falling(20).runs(1), 1);
        due("20 rising", heapOf(20).runs(1), 20);
    }

    private static void plans() {
        about("THE PLAN: 0 GOES");
        due("no letters", heap().plan(), 0);
        due("in order", heap(1, 1, 2).plan(), 0);
        NineHoles rising = heapOf(20);
        rising.rack(1, 0);
        due("by one queue", rising.plan(), 0);

        about("THE PLAN: up to 5 GOES");
        for (int goes = 1; goes <= 4; goes++) {
            NineHoles x = falling(1 << goes);
            x.rack(2, 0);
            due((1 << goes) + " falling by two queues", x.plan(), goes);
            NineHoles more = falling((1 << goes) + 1);
            more.rack(2, 0);
            due((1 << goes) + 1 + " falling by two queues", more.plan(), goes + 1);
        }
        NineHoles most = falling(20);
        most.rack(2, 0);
        due("20", most.plan(), 5);
        most.rack(3, 0);
        due("by three", most.plan(), 3);
        most.rack(9, 0);
        due("by nine", most.plan(), 2);
        NineHoles nine = falling(9);
        due("nine by nine", nine.plan(), 1);
        nine.letter(0, 0, 0);
        due("still nine ranks", nine.plan(), 1);

        about("plan: -2: none by 5");
        NineHoles y = heap(1, 0, 1);
        y.rack(1, 0);
        due("one queue", y.plan(), -2);
        y.rack(1, 1);
        due("one pipe", y.plan(), -2);
        y.rank(0, 1);
        due("one rank", y.plan(), 0);

        about("planned: NONE: no such LETTER");
        NineHoles z = heap(2, 1, 0);
        dueEach("letter", i -> z.planned(i, 0), -1, -1, 3, 31, 32, LEAST, MOST);

        about("planned: -2: it is not in THE HEAP");
        z.letter(2, 0, 1);
        due("not come", z.planned(3, 0), -2);
        due("come", z.planned(0, 0), 2);

        about("planned: -2: there is no PLAN");
        z.rack(1, 0);
        due("no plan", z.planned(0, 0), -2);

        about("planned: -2: no such GO in it");
        z.rack(9, 0);
        dueEach("go", k -> z.planned(0, k), -2, -1, 1, 5, LEAST, MOST);
        due("in order, go 0", heap(0, 1).planned(0, 0), -2);
        due("of 5, go 4", deepPlan().planned(0, 4), 1);
        due("of 5, go 5", deepPlan().planned(0, 5), -2);
    }

    private static NineHoles deepPlan() {
        NineHoles x = falling(17);
        x.rack(2, 0);
        return x;
    }

    private static void duePlan(NineHoles x, int goes, int[]... holes) {
        due("goes", x.plan(), goes);
        for (int i = 0; i < holes.length; i++) {
            for (int k = 0; k < goes; k++) due("letter " + i + " in go " + k, x.planned(i, k), holes[i][k]);
        }
        due("goes done", x.planDone(), goes);
        due("in order", x.out(), -1);
    }

    private static void ways() {
        about("RANKS are put on WAYS from the lowest on, each WAY taking as many as it can");
        NineHoles x = heap(0, 1, 2, 5, 4, 3);
        x.rack(2, 0);
        duePlan(x, 2, new int[][] {{0, 0}, {0, 0}, {0, 0}, {0, 1}, {1, 0}, {0, 0}});

        about("one, then more as long as they are BACKWARD with a number of PIPES that is not even");
        NineHoles y = heap(3, 2, 1, 0, 4);
        y.rack(2, 1);
        duePlan(y, 1, new int[][] {{0}, {0}, {0}, {0}, {1}});
        NineHoles knot = heap(0, 0, 1, 0);
        knot.rack(2, 1);
        duePlan(knot, 1, new int[][] {{0}, {0}, {1}, {0}});

        NineHoles second = heap(2, 3, 0, 1);
        second.rack(2, 0);
        duePlan(second, 1, new int[][] {{1}, {1}, {0}, {0}});

        about("on a WAY with an even number of PIPES they come out as they went in");
        NineHoles z = heap(1, 2, 0, 1);
        z.rack(1, 1);
        due("one pipe", z.plan(), -2);
        z.rack(2, 3);
        // they give back in the order 10, 00, 11, 01 (hole of the first go, of the last one)
        duePlan(z, 2, new int[][] {{0, 0}, {1, 1}, {1, 0}, {0, 0}});

        about("WAYS give back by the HOLE of the last GO, in it as behind the GO ahead or the other way round");
        NineHoles w = falling(4);
        w.rack(2, 0);
        duePlan(w, 2, new int[][] {{1, 1}, {0, 1}, {1, 0}, {0, 0}});
        NineHoles p = heap(2, 0, 2, 1, 0, 3, 1, 3, 2);
        p.rack(2, 2);
        due("a queue and a pipe: goes", p.plan(), 2);
        int[][] byRank = {{0, 0}, {1, 0}, {1, 1}, {0, 1}};
        int[] ranks = {2, 0, 2, 1, 0, 3, 1, 3, 2};
        for (int i = 0; i < 9; i++) for (int k = 0; k < 2; k++) due("letter " + i + " in go " + k, p.planned(i, k), byRank[ranks[i]][k]);

        about("LETTERS of one RANK go the same way");
        NineHoles r = heap(2, 1, 0, 2);
        r.rank(0, 5);
        r.rank(2, 5);
        duePlan(r, 1, new int[][] {{1}, {0}, {1}, {1}});
    }

    private static void plansDone() {
        about("planDone: THE LAW is not asked, nobody COMES, none is left out");
        NineHoles x = heap(2, 1, 0);
        x.letter(0, 0, 1);
        law(x, "h0(1=1);z(i=2)");
        due("goes", x.planDone(), 1);
        dueHeap("in order", x, 2, 1, 0);
        due("not come", x.letterIs(3, 2), -2);

        about("planDone: THE GO stays, last HOLES too");
        due("the go", x.count(2), 0);
        due("last hole", x.letterIs(0, 3), 9);
        NineHoles y = heap(2, 1, 0);
        law(y, "h5(1=1)");
        y.goes(12);
        due("at go 12, too", y.planDone(), 1);
        dueHeap("in order", y, 2, 1, 0);
        due("the go", y.count(2), 12);
        due("last hole", y.letterIs(0, 3), 5);

        about("planDone: 0 GOES");
        due("no letters", heap().planDone(), 0);
        NineHoles z = heap(1, 1, 2);
        z.rack(9, 511);
        due("in order", z.planDone(), 0);
        dueHeap("like ones are not turned round", z, 0, 1, 2);

        about("planDone: -2: there is none");
        NineHoles w = heap(2, 1, 2);
        w.rack(1, 1);
        due("none", w.planDone(), -2);
        dueHeap("as it was", w, 0, 1, 2);
        due("5 goes", deepPlan().planDone(), 5);
    }

    private static void tables() {
        about("tables: STREETS a to b (0 to 19)");
        NineHoles x = heapOf(20);
        dueEach("a", a -> x.tables(a, 19, 12), -1, -1, 20, LEAST, MOST);
        dueEach("b", b -> x.tables(0, b, 12), -1, -1, 20, LEAST, MOST);
        due("a above b", x.tables(5, 4, 1), -1);
        due("a is b", x.tables(5, 5, 1), 0);
        due("a and b of 19", x.tables(19, 19, 1), 0);
        due("0 to 19", x.tables(0, 19, 2), 20 + 13);

        about("tables: at most d GOES (1 to 12)");
        dueEach("d", d -> x.tables(0, 5, d), -1, 0, -1, 13, LEAST, MOST);
        due("1", x.tables(0, 5, 1), 6);
        due("12", x.tables(0, 5, 12), 6);

        about("tables: -2: it can't be");
        due("nine streets by one go", x.tables(0, 8, 1), 9);
        due("ten streets by one go", x.tables(0, 9, 1), -2);
        due("ten streets by two", x.tables(0, 9, 2), 12);
        for (int d = 1; d <= 4; d++) {
            NineHoles y = heapOf(20);
            y.rack(2, 0);
            due("as many as by two holes", y.tables(0, (1 << d) - 1, d), d << d);
            due("one more", y.tables(0, 1 << d, d), -2);
        }
        NineHoles one = heap(0, 1);
        one.rack(1, 0);
        due("one hole", one.tables(0, 1, 12), -2);

        about("tables: a heap whose LETTERS are of one STREET, or without LETTERS, is thrown no more");
        NineHoles y = heap(4, 4, 4, 7);
        y.rack(1, 1);
        due("one street", y.tables(0, 6, 1), 0);
        due("without letters", y.tables(8, 19, 1), 0);
        due("no letters at all", heap().tables(0, 19, 1), 0);
        y.rack(2, 0);
        due("two", y.tables(0, 19, 1), 4);
        due("just two", y.tables(4, 7, 1), 4);
        due("one of them", y.tables(4, 6, 1), 0);
        due("the other", y.tables(5, 7, 1), 0);

        about("tables: LETTERS that are in THE HEAP count");
        y.letter(5, 0, 1);
        due("not come", y.tables(4, 6, 1), 0);
        y.goes(1);
        due("come", y.tables(4, 6, 1), 4);

        about("tables: by number");
        y.rank(4, 9);
        y.rank(5, 9);
        due("of one rank, but two streets", y.tables(4, 6, 1), 4);

        about("tables: all HOLES need not be used");
        due("two streets, nine holes", heap(3, 3, 8).tables(0, 19, 12), 3);

        about("tables: fewest THROWS");
        NineHoles z = heap(0, 0, 0, 0, 0, 0, 1, 2, 3);
        z.rack(2, 0);
        due("by two goes", z.tables(0, 3, 2), 18);
        due("by three the heavy street goes once", z.tables(0, 3, 3), 9 + 3 + 2);
        due("by twelve", z.tables(0, 3, 12), 14);
    }

    private static void firstStreets() {
        about("table: NONE: no such STREETS, d");
        NineHoles x = heap(0, 1, 2);
        dueEach("a", a -> x.table(a, 19, 1, 0), -1, -1, 20, LEAST, MOST);
        dueEach("b", b -> x.table(0, b, 1, 0), -1, -1, 20, LEAST, MOST);
        dueEach("d", d -> x.table(0, 19, d, 0), -1, 0, 13, LEAST, MOST);
        due("a above b", x.table(2, 1, 1, 0), -1);

        about("table: NONE: no such HOLE");
        dueEach("hole", k -> x.table(0, 2, 1, k), -1, -1, 9, LEAST, MOST);

        about("table: -2: no such HOLE is used");
        for (int k = 0; k <= 8; k++) due("hole " + k, x.table(0, 2, 1, k), k < 3 ? k : -2);
        NineHoles nine = heapOf(9);
        for (int k = 0; k <= 8; k++) due("hole " + k + " of nine", nine.table(0, 8, 1, k), k);

        about("table: -2: nothing is thrown");
        for (int k = 0; k <= 8; k += 4) {
            due("one street", x.table(1, 1, 1, k), -2);
            due("without letters", x.table(3, 19, 1, k), -2);
        }

        about("table: NONE: it can't be");
        x.rack(2, 0);
        for (int k = 0; k <= 8; k += 4) due("hole " + k, x.table(0, 2, 1, k), -1);

        about("table: of like ones fewest HOLES");
        NineHoles few = heap(4, 7);
        due("two are enough", few.table(0, 19, 1, 1), 5);
        due("no third", few.table(0, 19, 1, 2), -2);
        NineHoles three = heap(0, 1, 2, 3);
        three.rack(3, 0);
        due("4 streets by 3: 6 throws", three.tables(0, 3, 2), 6);
        due("a third hole", three.table(0, 3, 2, 2), 2);

        about("table: then the least row of first STREETS");
        due("it begins at a", few.table(2, 19, 1, 0), 2);
        due("as early as can be", few.table(4, 19, 1, 1), 5);
        NineHoles two = heap(0, 1, 2);
        two.rack(2, 0);
        due("first", two.table(0, 2, 2, 0), 0);
        due("second", two.table(0, 2, 2, 1), 1);
        NineHoles heavy = heap(0, 1, 2, 3, 3, 3, 3, 3, 3, 3, 3);
        heavy.rack(2, 0);
        due("the last one alone", heavy.table(0, 3, 3, 1), 3);
        due("even, if there are no three goes", heavy.table(0, 3, 2, 1), 2);
        NineHoles eleven = heapOf(11);
        for (int k = 0; k <= 8; k++) due("of eleven three lie in the last one: " + k, eleven.table(0, 10, 2, k), k);
        due("first of three", three.table(0, 3, 2, 0), 0);
        due("second of three", three.table(0, 3, 2, 1), 1);
    }

    private static void yardsOfOneSort() {
        about("yardQueues: 0: no LETTERS");
        due("none", heap().yardQueues(), 0);
        NineHoles late = new NineHoles();
        late.letter(1, 0, 1);
        due("none that has come", late.yardQueues(), 0);

        about("yardQueues: the most LETTERS one behind the other each of a lower RANK than the one ahead");
        due("one", heap(5).yardQueues(), 1);
        due("like ones", heap(5, 5, 5).yardQueues(), 1);
        due("rising", heapOf(20).yardQueues(), 1);
        due("20 falling, beyond the rack", falling(20).yardQueues(), 20);
        due("with others between", heap(3, 9, 2, 9, 1).yardQueues(), 3);
        due("not the first falling ones", heap(1, 0, 9, 8, 7).yardQueues(), 3);

        about("yardPipes: 0: no LETTERS");
        due("none", heap().yardPipes(), 0);
        due("none that has come", late.yardPipes(), 0);

        about("yardPipes: in each no LETTER lies on one of a lower RANK");
        due("one", heap(5).yardPipes(), 1);
        due("like ones", heap(5, 5, 5).yardPipes(), 1);
        due("falling", falling(20).yardPipes(), 1);
        due("20 rising, beyond the rack", heapOf(20).yardPipes(), 20);
        due("with others between", heap(1, 0, 2, 0, 3).yardPipes(), 3);

        about("a YARD by RANKS: LETTERS of one RANK may change");
        NineHoles x = falling(3);
        x.rank(0, 2);
        x.rank(1, 2);
        due("queues", x.yardQueues(), 1);
        NineHoles y = heapOf(3);
        y.rank(0, 2);
        y.rank(1, 2);
        due("pipes", y.yardPipes(), 1);
    }

    private static void dueRow(String what, NineHoles x, int... holes) {
        due(what, x.yard(holes.length, -1), 1);
        for (int p = 0; p < holes.length; p++) due(what + ": place " + p, x.yard(holes.length, p), holes[p]);
    }

    private static void yards() {
        about("yard: NONE: no such n (1 to 10)");
        NineHoles x = heapOf(20);
        for (int what = -1; what <= 10; what += 11) {
            int asked = what;
            dueEach("n", n -> x.yard(n, asked), -1, 0, -1, 11, 20, LEAST, MOST);
        }
        due("1", x.yard(1, -1), 1);
        due("10", x.yard(10, -1), 1);

        about("yard: NONE: THE HEAP has not so many");
        NineHoles y = heap(1, 2);
        y.letter(3, 0, 1);
        due("2", y.yard(2, -1), 1);
        due("3, but one has not come", y.yard(3, -1), -1);
        due("of none", heap().yard(1, -1), -1);

        about("yard: -3: no such place");
        dueEach("place", p -> x.yard(2, p), -3, 2, 9, -2, LEAST, MOST);
        dueEach("place of ten", p -> x.yard(10, p), -3, 10, 19, -2);

        about("yard: whether they can (1, 0); -2: they can't");
        NineHoles z = heap(2, 1, 0);
        z.rack(2, 0);
        due("can't", z.yard(3, -1), 0);
        for (int p = 0; p < 3; p++) due("can't, place " + p, z.yard(3, p), -2);
        due("the first two can", z.yard(2, -1), 1);
        NineHoles ten = falling(20);
        due("ten falling, nine queues", ten.yard(10, -1), 0);
        due("nine falling", ten.yard(9, -1), 1);
        ten.rack(9, 1);
        due("one of them a pipe", ten.yard(10, -1), 1);

        about("yard: in a QUEUE none behind one of a higher RANK");
        NineHoles q = heap(1, 1, 2, 1);
        q.rack(1, 0);
        dueRow("like ones may", q, 0, 0, 0);
        due("a lower one may not", q.yard(4, -1), 0);
        NineHoles zeros = heap(0, 0);
        zeros.rack(1, 0);
        dueRow("of rank 0", zeros, 0, 0);

        about("yard: in a PIPE none on one of a lower RANK");
        NineHoles p = heap(2, 2, 1, 2);
        p.rack(1, 1);
        dueRow("like ones may", p, 0, 0, 0);
        due("a higher one may not", p.yard(4, -1), 0);
        NineHoles nineteens = heap(19, 19);
        nineteens.rack(1, 1);
        dueRow("of rank 19", nineteens, 0, 0);

        about("yard: the least row of HOLES");
        dueRow("all into hole 0", heapOf(20), 0, 0, 0, 0, 0, 0, 0, 0, 0, 0);
        NineHoles w = heap(1, 0, 1);
        w.rack(3, 0);
        dueRow("no hole is left out", w, 0, 1, 0);
        NineHoles room = heap(3, 1, 2);
        room.rack(2, 2);
        dueRow("the first one makes room", room, 1, 0, 0);
        NineHoles both = heap(0, 5, 4, 3);
        both.rack(2, 2);
        dueRow("a queue, then a pipe", both, 0, 0, 1, 1);
        NineHoles mixed = heap(2, 0, 1);
        mixed.rack(3, 2);
        dueRow("a queue, a pipe, a queue", mixed, 0, 1, 2);
        mixed.rack(3, 6);
        dueRow("a queue, two pipes", mixed, 0, 1, 2);
        NineHoles ends = heap(0, 1, 1, 0);
        ends.rack(2, 0);
        dueRow("the fullest one that takes it", ends, 0, 0, 0, 1);
        NineHoles back = heap(5, 0, 6, 1);
        back.rack(2, 0);
        dueRow("each where it fits", back, 0, 1, 0, 1);

        about("yard: by RANKS");
        NineHoles r = heap(2, 1, 0);
        r.rack(1, 0);
        r.rank(2, 0);
        r.rank(1, 0);
        dueRow("of one rank", r, 0, 0, 0);
    }

    private static void dueTogether(NineHoles x, int runs, int... streets) {
        due("runs", x.together(-1), runs);
        for (int p = 0; p < streets.length; p++) due("place " + p, x.together(p), streets[p]);
        due("no place more", x.together(streets.length), -3);
    }

    private static void together() {
        about("together: -2: none");
        NineHoles none = new NineHoles();
        none.letter(1, 0, 1);
        dueEach("what", none::together, -2, -1, 0, 7, -2, LEAST, MOST);

        about("together: -2: more than 8 STREETS");
        NineHoles x = heap(0, 2, 4, 6, 8, 10, 12, 14, 14);
        due("eight", x.together(-1), 1);
        due("the last of eight", x.together(7), 14);
        x.letter(19, 0, 0);
        dueEach("nine, what", x::together, -2, -1, 0, 8, 9, -2, LEAST, MOST);

        about("together: -3: no such place");
        NineHoles y = heap(3, 1, 1);
        dueEach("what", y::together, -3, 2, 3, 8, -2, LEAST, MOST);

        about("together: one STREET");
        dueTogether(heap(0), 1, 0);
        dueTogether(heap(19, 19, 19), 1, 19);

        about("together: an order with fewest FORWARD RUNS");
        dueTogether(heap(7, 3, 5), 1, 7, 3, 5);
        dueTogether(heap(5, 5, 3, 3), 1, 5, 3);
        dueTogether(heap(7, 3, 7, 5, 3, 5), 2, 3, 7, 5);
        dueTogether(heap(0, 1, 2, 3, 4, 5, 6, 7, 0, 1, 2, 3, 4, 5, 6, 7), 8, 0, 1, 2, 3, 4, 5, 6, 7);

        about("together: of like ones the least row of STREETS");
        dueTogether(heap(9, 4, 9, 4), 2, 4, 9);
        dueTogether(heap(2, 0, 1, 2), 2, 0, 1, 2);
        dueTogether(heap(1, 0, 1, 2), 2, 0, 1, 2);
        dueTogether(heap(2, 0, 2, 1), 2, 0, 1, 2);
        dueTogether(heap(2, 1, 0, 2), 2, 1, 0, 2);
        dueTogether(heap(0, 1, 2, 1), 2, 0, 1, 2);
        dueTogether(heap(1, 2, 3, 2, 0), 2, 1, 2, 0, 3);
        NineHoles again = heap(3, 5, 7);
        dueTogether(again, 1, 3, 5, 7);
        order(again, 2, 0, 1);
        dueTogether(again, 1, 7, 3, 5);
        order(again, 1, 2, 0);
        dueTogether(again, 1, 5, 7, 3);

        about("together: STREETS, not RANKS");
        NineHoles z = heap(5, 3, 4);
        z.rank(3, 5);
        z.rank(4, 5);
        dueTogether(z, 1, 5, 3, 4);
    }

    private static void blunders() {
        about("blunder: NONE: no such n (1 to 12)");
        NineHoles x = heap(0, 1, 2);
        law(x, "hs(1=1)");
        dueEach("n", n -> x.blunder(n, 0, 0, 5, 0), -1, 0, -1, 13, LEAST, MOST);
        due("1", x.blunder(1, 0, 0, 5, 0), 2);
        due("12", x.blunder(12, 0, 0, 5, 0), 0);

        about("blunder: NONE: THE GO would be above 12");
        NineHoles late = heap(0, 1, 2);
        law(late, "hs(1=1)");
        late.goes(9);
        due("3 behind 9", late.blunder(3, 2, 0, 5, 0), 2);
        due("4 behind 9", late.blunder(4, 2, 0, 5, 0), -1);
        late.goes(3);
        due("behind 12", late.blunder(1, 0, 0, 5, 0), -1);

        about("blunder: in GO k (0 to n - 1)");
        for (int n = 1; n <= 4; n++) {
            int goes = n;
            dueEach(n + " goes, k", k -> x.blunder(goes, k, 0, 5, 0), -1, -1, n, LEAST, MOST);
            due("mended, but in the last one", x.blunder(n, n - 1, 0, 5, 0), 2);
            if (n > 1) due("mended", x.blunder(n, n - 2, 0, 5, 0), 0);
        }

        about("blunder: NONE: no such LETTER");
        dueEach("letter", i -> x.blunder(1, 0, i, 5, 0), -1, -1, 3, 31, 32, LEAST, MOST);

        about("blunder: NONE: no such HOLE");
        dueEach("hole", h -> x.blunder(1, 0, 0, h, 0), -1, -1, 9, LEAST, MOST);
        due("hole 8", x.blunder(1, 0, 0, 8, 0), 2);
        due("hole 0", x.blunder(1, 0, 1, 0, 0), 1);
        x.rack(4, 0);
        due("hole 3 of four", x.blunder(1, 0, 0, 3, 0), 2);
        due("hole 4 of four", x.blunder(1, 0, 0, 4, 0), -1);

        about("blunder: NONE: no such what");
        dueEach("what", w -> x.blunder(1, 0, 0, 3, w), -1, -1, 3, LEAST, MOST);
    }

    private static void blunderOrNone() {
        about("blunder: -2: it is not thrown in that GO");
        NineHoles x = heap(0, 1, 2);
        x.letter(3, 0, 2);
        law(x, "z(i=1);z(i=2&g=1);hs(1=1)");
        due("left out", x.blunder(1, 0, 1, 5, 0), -2);
        due("left out in the second go", x.blunder(2, 1, 2, 5, 0), -2);
        due("not in the first", x.blunder(2, 0, 2, 5, 0) >= 0, true);
        due("has not come", x.blunder(3, 0, 3, 5, 0), -2);
        due("has come", x.blunder(3, 1, 3, 5, 0) >= 0, true);
        due("would never come", lateBlunder(), -2);

        about("blunder: -2: into that HOLE anyway");
        for (int i : new int[] {0, 2}) due("letter " + i, x.blunder(1, 0, i, i, 0), -2);
        NineHoles b = heap(7);
        law(b, "h7(1=1)");
        due("7", b.blunder(1, 0, 0, 7, 0), -2);
        b.rack(3, 0);
        due("the bound", b.blunder(1, 0, 0, 2, 0), -2);
        due("another", b.blunder(1, 0, 0, 1, 0), 0);
        NineHoles one = heap(0);
        one.rack(1, 0);
        due("the only one", one.blunder(1, 0, 0, 0, 0), -2);

        about("blunder: where it is at the end, how far from where it would be, how many others are at other places");
        NineHoles y = heap(0, 1, 2, 3);
        law(y, "hs(1=1)");
        int[][] down = {{0, 1, 0, 0}, {0, 3, 2, 2}, {0, 8, 3, 3}, {3, 0, 1, 2}, {3, 2, 3, 0}, {1, 0, 1, 0}};
        for (int[] d : down) {
            due(d[0] + " into " + d[1] + ": where", y.blunder(1, 0, d[0], d[1], 0), d[2]);
            due(d[0] + " into " + d[1] + ": how far", y.blunder(1, 0, d[0], d[1], 1), Math.abs(d[2] - d[0]));
            due(d[0] + " into " + d[1] + ": others", y.blunder(1, 0, d[0], d[1], 2), d[3]);
        }

        about("blunder: the other GOES are by THE LAW");
        NineHoles z = heap(1, 0, 0);
        law(z, "h8-p(g=1);hs(1=1)");
        due("where, behind two", z.blunder(2, 0, 1, 5, 0), 0);
        due("how far, behind two", z.blunder(2, 0, 1, 5, 1), 2);
        due("others, behind two", z.blunder(2, 0, 1, 5, 2), 2);
        about("blunder: 32 LETTERS");
        NineHoles full = heapOf(32);
        due("where", full.blunder(1, 0, 0, 8, 0), 31);
        due("how far", full.blunder(1, 0, 0, 8, 1), 31);
        due("others", full.blunder(1, 0, 0, 8, 2), 31);
        due("the last of them stays", full.blunder(1, 0, 31, 8, 2), 0);
        for (String text : LAWS) blundersBy(text);
    }

    private static int lateBlunder() {
        NineHoles x = heap(0);
        x.goes(3);
        x.letter(0, 0, 12);
        return x.blunder(8, 7, 1, 5, 0);
    }

    private static void badly() {
        about("badly: NONE: no such n (1 to 6)");
        NineHoles x = heap(0, 1);
        law(x, "hs(1=1)");
        feed(x, 0, 1);
        for (int what = -1; what <= 2; what++) {
            int asked = what;
            dueEach("n", n -> x.badly(n, asked), -1, 0, -1, 7, LEAST, MOST);
        }
        due("the tape stays", x.count(4), 20);
        due("1", badly(x, 1, -1, 0, 1), -3);
        due("6", badly(x, 6, -1, 0, 1), -3);

        about("badly: NONE: no such what");
        feed(x, 0, 1);
        dueEach("what", w -> x.badly(1, w), -1, -2, 3, LEAST, MOST);
        due("the tape stays", x.count(4), 20);

        about("badly: NONE: THE GO would be above 12");
        NineHoles late = heap(0, 1);
        late.goes(7);
        due("5 behind 7", badly(late, 5, -1, 0, 1), -3);
        due("6 behind 7", badly(late, 6, -1, 0, 1), -1);
        due("the tape stays", late.count(4), 20);
        late.goes(5);
        due("behind 12", badly(late, 1, -1, 0, 1), -1);

        about("badly: NONE: the tape has not so many (it stays)");
        NineHoles many = heapOf(20);
        many.letter(0, 0, 2);
        int[] told = new int[40];
        for (int i = 0; i < 40; i++) told[i] = i;
        int[] twenty = java.util.Arrays.copyOf(told, 20);
        due("20 for 20", badly(many, 1, 0, twenty), -3);
        due("20 for 21 behind two goes", badly(many, 2, 0, twenty), -1);
        due("the tape stays", many.count(4), 20);
        due("40 for 21", badly(many, 2, 0, told), -3);
        due("empty then", many.count(4), 0);
        due("none for 20", many.badly(1, 0), -1);

        about("badly: -3: it is as it should be");
        for (int what = -1; what <= 2; what++) {
            due("what " + what, badly(x, 1, what, 0, 1), -3);
            due("what " + what + ", no letters", new NineHoles().badly(1, what), -3);
        }

        about("badly: -2: none (what NONE tells how many: 0)");
        due("how many ahead", badly(x, 1, -1, 1, 0), 7);
        int[][] strange = {{1, 1}, {0, 0}, {2, 0}, {0, 2}, {255, 0}, {0, 255}, {32, 1}, {0, 33}, {31, 32}};
        for (int[] s : strange) {
            due("how many", badly(x, 1, -1, s), 0);
            for (int what = 0; what <= 2; what++) due("what " + what, badly(x, 1, what, s), -2);
            due("empty then", x.count(4), 0);
        }
        NineHoles one = heap(0, 1);
        one.rack(1, 0);
        due("no other hole, how many", badly(one, 6, -1, 1, 0), 0);
        due("no other hole", badly(one, 6, 0, 1, 0), -2);

        about("badly: the first one (by GO, LETTER, HOLE)");
        NineHoles y = heap(0, 1);
        law(y, "hs(1=1)");
        due("how many in one go", badly(y, 1, -1, 1, 0), 7);
        due("go", badly(y, 1, 0, 1, 0), 0);
        due("letter", badly(y, 1, 1, 1, 0), 0);
        due("hole", badly(y, 1, 2, 1, 0), 2);
    }

    /** By laws that ask for the place or for the last hole what was asked for one blunder must not be taken for another. */
    private static void badlyByLaws() {
        about("badly: by THE LAW, RANKS, THE RACK and LETTERS as they are now");
        NineHoles x = heap(0, 1);
        law(x, "hs(1=1)");
        due("turned round", badly(x, 1, -1, 1, 0), 7);
        law(x, "h1-s(1=1)");
        due("another law", badly(x, 1, -1, 1, 0), -3);
        due("turned round by it", badly(x, 1, -1, 0, 1), 9);
        law(x, "hr(1=1)");
        due("by ranks", badly(x, 1, -1, 1, 0), 7);
        x.rank(0, 5);
        x.rank(1, 4);
        due("by other ranks", badly(x, 1, -1, 1, 0), -3);
        due("turned round by them", badly(x, 1, -1, 0, 1), 9);
        x.rack(2, 0);
        due("by two holes both go into one", badly(x, 1, -1, 1, 0), 1);
        x.rack(2, 2);
        due("a pipe", badly(x, 1, -1, 1, 0), -3);

        about("badly: 32 LETTERS");
        NineHoles full = heapOf(32);
        int[] turned = new int[32];
        for (int i = 0; i < 32; i++) turned[i] = (i + 1) % 32;
        due("the first is last: into one of eight", badly(full, 1, -1, turned), 8);
        due("go", badly(full, 1, 0, turned), 0);
        due("letter", badly(full, 1, 1, turned), 0);
        due("hole", badly(full, 1, 2, turned), 1);
        due("in one of six goes", badly(full, 6, -1, turned), 48);
        turned[31] = 200;
        due("none", badly(full, 6, -1, turned), 0);

        for (String text : LAWS) {
            about("badly: BLUNDERS by which it is just that, by " + text);
            for (int n = 1; n <= 3; n++) for (int i = 0; i < 5; i++) badlyBy(text, n, i);
        }
    }

    private static void badlyBy(String text, int n, int i) {
        NineHoles x = new NineHoles();
        Model m = new Model();
        begin(x, m, text);
        Model.Desk behind = m.after(n, n == 3 ? 1 : 0, i, (i + n) % 4);
        if (behind == null) return;
        int[] told = behind.heap.stream().mapToInt(Integer::intValue).toArray();
        for (int what = -1; what <= 2; what++) {
            m.tape.addAll(behind.heap);
            due(n + " goes, letter " + i + ", what " + what, badly(x, n, what, told), m.badly(n, what));
        }
    }

    private static void blundersBy(String text) {
        about("blunder: the other GOES are by THE LAW, by " + text);
        NineHoles x = new NineHoles();
        Model m = new Model();
        begin(x, m, text);
        for (int n = 2; n <= 4; n++) {
            for (int k = 0; k < n; k++) {
                for (int i = 0; i < 5; i++) {
                    for (int hole = 0; hole < 4; hole++) {
                        int what = (i + hole + k) % 3;
                        due(n + " goes, wrong in " + k + ": " + i + " into " + hole + ", what " + what,
                            x.blunder(n, k, i, hole, what), m.blunder(n, k, i, hole, what));
                    }
                }
            }
        }
    }

    private static void begin(NineHoles x, Model m, String text) {
        int[][] letters = {{2, 0}, {0, 0}, {1, 0}, {0, 0}, {1, 2}};
        for (int[] l : letters) {
            x.letter(l[0], 1, l[1]);
            m.letter(l[0], 1, l[1]);
        }
        x.rack(4, 2);
        m.rack(4, 2);
        order(x, 3, 1, 0, 2);
        m.desk.heap = new java.util.ArrayList<>(java.util.List.of(3, 1, 0, 2));
        law(x, text);
        for (int b : bytes(text)) m.tape.add(b);
        m.law(text.length());
    }

    private static void clerks() {
        about("clerks: -2: no such k");
        NineHoles x = heap(0, 1, 2);
        x.letter(3, 0, 1);
        x.letter(4, 0, 2);
        law(x, "t5(1=1)");
        dueEach("k", x::clerks, -2, -2, 5, 33, LEAST, MOST);

        about("clerks: the first k LETTERS of THE HEAP (with those that COME)");
        int[] want = {20, 15, 10, 15, 20};
        for (int k = 0; k <= 4; k++) due("k " + k, x.clerks(k), want[k]);

        about("clerks: the best k (of like ones the least)");
        due("half", x.clerks(-1), 2);
        NineHoles y = heap(0, 1, 2, 3, 4);
        law(y, "t5(1=1)");
        due("two or three", y.clerks(-1), 2);
        law(y, "t0(1=1)");
        due("no seconds", y.clerks(-1), 0);
        law(y, "t9(i=0);t0(1=1)");
        due("one alone", y.clerks(-1), 0);
        law(y, "t9(i<2);t0(1=1)");
        due("two", y.clerks(-1), 1);
        law(y, "t9(i=0|i=4);t0(1=1)");
        due("first and last", y.clerks(-1), 1);
        law(y, "t1(1=1);z(i>1)");
        due("those left out need none", y.clerks(-1), 1);
        law(y, "t1(i<4);t4(1=1)");
        due("all but the last", y.clerks(-1), 4);
        due("no letters", heap().clerks(-1), 0);
        due("no letters, k 0", heap().clerks(0), 0);
        due("no letters, k 1", heap().clerks(1), -2);

        about("clerks: NONE: THE GO is 12");
        x.goes(11);
        due("at 11", x.clerks(0), 25);
        x.goes(1);
        dueEach("at 12, k", x::clerks, -1, -1, 0, 1, 5);
    }

    private static void wanted() {
        about("wanted: NONE: no such STREETS (bits)");
        NineHoles x = heap(0, 19);
        dueEach("streets", x::wanted, -1, 0, -1, 1 << 20, 1 << 20 | 1, LEAST, MOST);
        law(x, "t7(1=1)");
        due("street 0", x.wanted(1), 7);
        due("street 19", x.wanted(1 << 19), 8);
        due("all", x.wanted((1 << 20) - 1), 14);

        about("wanted: -2: no LETTER of them is in THE HEAP");
        x.letter(5, 0, 1);
        due("has not come", x.wanted(1 << 5), -2);
        due("another", x.wanted(1 << 18), -2);
        due("no letters", heap().wanted(1), -2);
        x.goes(1);
        due("has come", x.wanted(1 << 5), 9);

        about("wanted: from the top on, till the last of them: the less of both");
        NineHoles y = heap(1, 2, 1, 3, 2);
        law(y, "t9(1=1)");
        due("others let lie", y.wanted(1 << 1), 19);
        due("the last one counts", y.wanted(1 << 2), 21);
        due("none behind it", y.wanted(1 << 1 | 1 << 2), 37);
        law(y, "t9(s=1);t0(1=1)");
        due("all thrown", y.wanted(1 << 3), 3);
        due("all thrown is less", y.wanted(1 << 2), 3);
        law(y, "t0(1=1)");
        due("no seconds", y.wanted(1 << 3), 0);
        law(y, "t1(1=1)");
        due("both are like", y.wanted(1 << 3), 4);

        about("wanted: THE LAW's h and z are not asked");
        law(y, "z(1=1);t9(1=1)");
        due("left out by the law", y.wanted(1 << 1), 19);

        about("wanted: SECONDS by t, as for the next GO");
        NineHoles z = heap(1, 2);
        law(z, "t10*g+p+1(1=1)");
        for (int go = 0; go <= 12; go++) {
            due("go " + go, z.wanted(1 << 1), 10 * go + 1 > 99 ? 99 : 10 * go + 1);
            z.goes(1);
        }
    }

    private static void seeds() {
        about("seed: THE SEED (0 to 65535)");
        NineHoles x = new NineHoles();
        dueEach("seed", v -> one(x.seed(v)), 0, -1, 65536, LEAST, MOST);
        due("as it was", x.count(5), 1);
        due("0", x.seed(0), true);
        due("X, too", x.count(5), 0);
        due("65535", x.seed(65535), true);
        due("X, too", x.count(5), 65535);
    }

    private static void shuffled() {
        about("shuffle: no LETTERS, one LETTER");
        NineHoles none = new NineHoles();
        due("in order", none.shuffle(), -1);
        due("X stays", none.count(5), 1);
        NineHoles one = heap(7);
        due("in order", one.shuffle(), -1);
        due("X stays", one.count(5), 1);

        about("shuffle: X = (25173 X + 13849) modulo 65536");
        for (int seed : new int[] {0, 1, 2, 65535, 32768, 12345}) {
            NineHoles x = heap(0, 1);
            x.seed(seed);
            int due = (int) ((25173L * seed + 13849L) % 65536L);
            due("out behind seed " + seed, x.shuffle(), due % 2 == 0 ? 1 : -1);
            due("X behind seed " + seed, x.count(5), due);
            due("on top", x.at(0), due % 2 == 0 ? 1 : 0);
        }

        about("shuffle: for k from the last place on down to 1, X modulo (k and 1)");
        for (int seed : new int[] {1, 65535}) {
            NineHoles x = heapOf(32);
            x.seed(seed);
            int[] due = new int[32];
            for (int p = 0; p < 32; p++) due[p] = p;
            long at = seed;
            for (int k = 31; k >= 1; k--) {
                at = (25173L * at + 13849L) % 65536L;
                int other = (int) (at % (k + 1));
                int letter = due[k];
                due[k] = due[other];
                due[other] = letter;
            }
            x.shuffle();
            dueHeap("seed " + seed, x, due);
            due("X", x.count(5), (int) at);
        }

        about("shuffle: OUT then (NONE: IN ORDER)");
        NineHoles like = heap(5, 5, 5);
        due("like ones", like.shuffle(), -1);
        due("X goes on", like.count(5) != 1, true);
        NineHoles more = heap(0, 1, 2, 3, 4);
        more.shuffle();
        int then = more.count(5);
        more.shuffle();
        int x = then;
        for (int k = 0; k < 4; k++) x = (int) ((25173L * x + 13849L) % 65536L);
        due("X is the seed at first alone", more.count(5), x);

        about("shuffle: those that have not come stay away");
        NineHoles late = heap(0, 1);
        late.letter(2, 0, 1);
        late.shuffle();
        due("two", late.count(1), 2);
        due("not come", late.letterIs(2, 2), -2);
    }

    private static void keptAndUndone() {
        about("keep: how many LETTERS are in THE HEAP");
        due("none", heap().keep(), 0);
        NineHoles late = heap(1);
        late.letter(2, 0, 1);
        due("one of two", late.keep(), 1);
        due("32", heapOf(32).keep(), 32);

        about("undo: false: none was KEPT");
        NineHoles never = heap(2, 1);
        due("false", never.undo(), false);
        dueHeap("as it was", never, 0, 1);

        about("undo: LETTERS");
        NineHoles x = heap(4);
        x.keep();
        for (int i = 1; i < 32; i++) x.letter(5, 5, i % 2);
        due("full", x.letter(0, 0, 0), -1);
        due("true", x.undo(), true);
        due("letters", x.count(0), 1);
        due("letter 1 is no more", x.letterIs(1, 0), -1);
        for (int i = 1; i < 32; i++) due("another", x.letter(6, 6, 0), i);
        due("its street", x.letterIs(1, 0), 6);
        due("its weight", x.letterIs(1, 1), 6);
        due("it is there", x.letterIs(1, 2), 1);

        about("undo: THE HEAP, THE GO, last HOLES, X");
        NineHoles y = heap(2, 1, 0);
        y.letter(3, 0, 3);
        law(y, "hs(1=1)");
        y.goes(1);
        y.seed(77);
        due("kept", y.keep(), 3);
        law(y, "h8-s(1=1)");
        y.goes(11);
        y.seed(78);
        y.shuffle();
        due("true", y.undo(), true);
        dueHeap("the heap", y, 2, 1, 0);
        due("the go", y.count(2), 1);
        due("last hole", y.letterIs(0, 3), 2);
        due("never thrown", y.letterIs(3, 3), 9);
        due("not come", y.letterIs(3, 2), -2);
        due("X", y.count(5), 77);
        due("goes again", y.goes(11), 0);
        due("it comes again", y.count(1), 4);

        about("undo: RANKS, THE RACK, THE LAW and the tape stay");
        NineHoles z = heap(2, 1);
        z.keep();
        z.rank(2, 9);
        z.rack(3, 5);
        law(z, "h2(1=1)");
        feed(z, 1, 2, 3);
        z.undo();
        due("rank", z.count(22), 9);
        due("holes", z.count(6), 3);
        due("pipes", z.count(7), 5);
        due("law", z.letterIs(0, 4), 2);
        due("tape", z.count(4), 20);

        about("undo: as they were KEPT last");
        NineHoles w = heap(1);
        w.keep();
        w.letter(2, 0, 0);
        w.keep();
        w.letter(3, 0, 0);
        due("true", w.undo(), true);
        due("two", w.count(1), 2);
        w.letter(3, 0, 0);
        due("true again", w.undo(), true);
        due("two again", w.count(1), 2);
        due("and again", w.undo(), true);

        about("undo: none is KEPT of the tries");
        w.tried(1, 0);
        w.blunder(1, 0, 0, 5, 0);
        badly(w, 1, 0, 1, 0);
        w.clerks(-1);
        due("true", w.undo(), true);
        due("two", w.count(1), 2);
    }

    private static void checks() {
        about("check: -2: no such n (0 to 32)");
        NineHoles x = heapOf(32);
        int[] all = new int[40];
        for (int i = 0; i < 40; i++) all[i] = i;
        due("32 of 40", check(x, 32, all), -1);
        due("33", check(x, 33, all), -2);
        dueEach("n", x::check, -2, -1, 33, 55, 1 << 30, LEAST, MOST);
        due("the tape stays", x.count(4), 160);
        due("0", x.check(0), -1);
        due("empty then", x.count(4), 0);

        about("check: -2: the tape has not so many (it stays)");
        NineHoles y = heapOf(10);
        due("six of five", check(y, 6, 0, 1, 2, 3, 4), -2);
        due("the tape stays", y.count(4), 20);
        due("five of five", y.check(5), -1);
        due("one of none", y.check(1), -2);
        due("none of none", y.check(0), -1);

        about("check: the place of the first number that is not so");
        NineHoles z = heap(7, 8, 9);
        due("the first", check(z, 3, 1, 1, 2), 0);
        due("the last", check(z, 3, 0, 1, 3), 2);
        due("two of them", check(z, 3, 0, 2, 1), 1);
        due("empty then", z.count(4), 0);
        due("fewer than there are", check(z, 2, 0, 1, 9), -1);
        due("none asked", check(z, 0, 9), -1);

        about("check: four bytes each");
        int[] bad = {0x01000000, 0x00010000, 0x00000100, 0x80000000, -1, 0xffffff00};
        for (int b : bad) due("number " + b, check(z, 1, b), 0);
        due("of the second", check(z, 3, 0, 0x00000101, 2), 1);

        about("check: how many there are, if n is above that");
        due("4", check(z, 4, 0, 1, 2, 3), 3);
        due("5", check(z, 5, 0, 1, 2, 0, 0), 3);
        due("a wrong one ahead", check(z, 5, 0, 1, 9, 3, 4), 2);
        due("no letters", check(heap(), 1, 0), 0);
        NineHoles late = heap(7);
        late.letter(8, 0, 1);
        due("one has not come", check(late, 2, 0, 1), 1);
    }

    private static void counts() {
        about("count: NONE for others");
        NineHoles x = new NineHoles();
        dueEach("what", x::count, -1, -1, 10, 11, 18, 19, 40, 41, LEAST, MOST);

        about("count: 0 LETTERS, 1 in THE HEAP");
        NineHoles y = heap(0, 19);
        y.letter(5, 99, 12);
        due("letters", y.count(0), 3);
        due("in the heap", y.count(1), 2);

        about("count: 8 STREETS in THE HEAP (bits), 9 WEIGHTS of THE HEAP");
        due("streets", y.count(8), 1 | 1 << 19);
        due("weights", y.count(9), 2);
        due("none", x.count(8), 0);
        due("none", x.count(9), 0);
        y.goes(12);
        due("streets with the one that came", y.count(8), 1 | 1 << 5 | 1 << 19);
        due("weights with the one that came", y.count(9), 101);
        NineHoles z = new NineHoles();
        for (int i = 0; i < 32; i++) z.letter(i % 20, 99, 0);
        due("all streets", z.count(8), (1 << 20) - 1);
        due("all weights", z.count(9), 32 * 99);

        about("count: 20 + s the RANK of STREET s");
        x.rank(0, 5);
        x.rank(19, 6);
        due("20", x.count(20), 5);
        due("39", x.count(39), 6);
        due("21", x.count(21), 1);
    }
}
