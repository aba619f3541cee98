/** Each promise of the document by hand: ordinary inputs, the edges that it names, wrong inputs. */
public final class PromisesTest extends Office {
    private static String repeat(String s, int n) {
        return s.repeat(n);
    }

    public static void main(String[] args) {
        aNewObject();
        letters();
        ranks();
        racks();
        feeding();
        laws();
        faults();
        reckoning();
        orders();
        letterIs();
        places();
        goes();
        tried();
        out();
        forAny();
        runs();
        plans();
        plansDone();
        tables();
        firstStreets();
        yards();
        yardByRack();
        together();
        blunders();
        badly();
        clerks();
        wanted();
        shuffled();
        keptAndUndone();
        checks();
        counts();
        asReadmeShows();
        end("PromisesTest");
    }

    private static void aNewObject() {
        about("promise 1");
        NineHoles x = new NineHoles();
        int[] want = {0, 0, 0, 0, 0, 1, 9, 0, 0, 0};
        for (int what = 0; what < 10; what++) due("count " + what, x.count(what), want[what]);
        for (int s = 0; s < 20; s++) due("rank " + s, x.count(20 + s), s);
        due("nothing kept", x.undo(), false);
        due("NONE", NineHoles.NONE, -1);
    }

    private static void letters() {
        about("promise 2");
        NineHoles x = new NineHoles();
        due("street -1", x.letter(-1, 0, 0), -1);
        due("street 20", x.letter(20, 0, 0), -1);
        due("weight -1", x.letter(0, -1, 0), -1);
        due("weight 100", x.letter(0, 100, 0), -1);
        due("comes -1", x.letter(0, 0, -1), -1);
        due("comes 13", x.letter(0, 0, 13), -1);
        due("none of them is there", x.count(0), 0);
        due("first", x.letter(19, 99, 0), 0);
        due("late", x.letter(0, 0, 12), 1);
        due("third", x.letter(5, 5, 0), 2);
        dueHeap("behind the heap", x, 0, 2);
        x.goes(1);
        due("ahead of a go that has been", x.letter(1, 1, 1), -1);
        due("ahead of the next", x.letter(1, 1, 2), 3);
        due("one that is there", x.letter(1, 1, 0), 4);
        x.goes(1);
        dueHeap("the one that came is behind", x, 0, 2, 4, 3);
        for (int i = 5; i < 32; i++) due("more", x.letter(i % 20, 1, 0), i);
        due("a 33rd", x.letter(1, 1, 0), -1);
        due("32", x.count(0), 32);
        NineHoles many = new NineHoles();
        many.letter(1, 0, 1);
        many.letter(2, 0, 1);
        many.letter(3, 0, 0);
        many.goes(1);
        dueHeap("by numbers", many, 2, 0, 1);
    }

    private static void ranks() {
        about("promise 3");
        NineHoles x = heap(3, 1);
        due("street -1", x.rank(-1, 0), false);
        due("street 20", x.rank(20, 0), false);
        due("rank -1", x.rank(0, -1), false);
        due("rank 20", x.rank(0, 20), false);
        due("as it was", x.count(20), 0);
        due("out by numbers", x.out(), 1);
        due("true", x.rank(3, 1), true);
        due("two may have one", x.out(), -1);
        due("true", x.rank(1, 19), true);
        due("told", x.count(21), 19);
    }

    private static void racks() {
        about("promise 4");
        NineHoles x = heap(1, 8);
        law(x, "hs(1=1)");
        x.goes(1);
        due("0 holes", x.rack(0, 0), false);
        due("10 holes", x.rack(10, 0), false);
        due("pipes -1", x.rack(3, -1), false);
        due("pipes 8 of 3", x.rack(3, 8), false);
        due("holes stay", x.count(6), 9);
        due("1 pipe", x.rack(1, 1), true);
        due("9 pipes", x.rack(9, 511), true);
        due("3 holes", x.rack(3, 7), true);
        due("holes", x.count(6), 3);
        due("pipes", x.count(7), 7);
        due("last hole stays", x.letterIs(1, 3), 8);
        due("beyond the last hole", x.letterIs(1, 4), 2);
    }

    private static void feeding() {
        about("promise 5");
        NineHoles x = new NineHoles();
        for (int k = 1; k <= 11; k++) due("fed", x.feed(0, 0, 0, 0, 0), 20 * k);
        due("a twelfth", x.feed(0, 0, 0, 0, 0), -1);
        due("the tape stays", x.count(4), 220);
        NineHoles y = new NineHoles();
        y.feed(0x01020304, 0x80000000, -1, 5, 6);
        due("highest first", y.check(1), 0);
        NineHoles z = heap(1, 2, 3);
        z.feed(0x00010002, 0, 0, 0, 0);
        due("bytes: one twice", z.order(3), false);
        z.feed(0x02000100, 0, 0, 0, 0);
        due("bytes", z.order(3), true);
        dueHeap("bytes", z, 2, 0, 1);
    }

    private static void laws() {
        about("promise 6");
        NineHoles x = heap(3, 4);
        due("three", law(x, "h5(s=3);t3(g=1);z(s=4)"), 3);
        due("clauses", x.count(3), 3);
        due("empty then", x.count(4), 0);
        due("a fault", law(x, "h5(s=3);t3(g=1);z(s=4"), -1021);
        due("empty then, too", x.count(4), 0);
        due("the text before stays", x.count(3), 3);
        due("it is asked", x.letterIs(0, 4), 5);
        due("left out", x.letterIs(1, 4), -2);
        x.feed(0, 0, 0, 0, 0);
        due("0 bytes", x.law(0), -1);
        due("-1 bytes", x.law(-1), -1);
        due("21 bytes", x.law(21), -1);
        due("201 bytes", x.law(201), -1);
        due("the tape stays", x.count(4), 20);
        due("in place of the one before", law(x, "h2(1=1)"), 1);
        due("asked now", x.letterIs(1, 4), 2);
        String longest = "h1" + repeat("+1", 94) + "(s=3)";
        longest = longest + repeat(" ", 200 - longest.length());
        due("200 bytes, a blank", law(x, longest), -1195);
        String whole = "h1" + repeat("*1", 93) + "+10(s=3)";
        due("196 bytes", law(x, whole), 1);
        due("bound", x.letterIs(0, 4), 8);
        String end = repeat("z(s=9);", 13) + "hs+0000(1=1)";
        due("14 clauses", law(x, end), 14);
        String full = "z(" + repeat("s=9|", 48) + "s=003)";
        due("200 bytes", full.length(), 200);
        due("200 bytes read", law(x, full), 1);
        due("the last part holds", x.letterIs(0, 4), -2);
        String fullAndBad = "z(" + repeat("s=9|", 49) + "s=";
        due("the end at 200", law(x, fullAndBad), -1200);
    }

    private static void faults() {
        NineHoles x = new NineHoles();
        String[] texts = {"z", "h", "h5", "x5(s=0)", "z5(s=0)", "z(s", "z(s=0", "z(a=0)", "z(s=0);", "z(s=0)z(s=0)", "z(s=0),",
            "h(1=1)", "t+1(1=1)", "h1+(1=1)", "z(1)", "z(1=1=1)", "z(1<>1)", "z()", "z(s=1&)", "z(s=1|&)", "z(!)", "z(s!=1)",
            "h[1(1=1)", "h[](1=1)", "h1](1=1)", "z(s=1))", "z((s)=1)", "z([s=1])", "hs5(1=1)", "h5s(1=1)", "z(s=1);;z(s=1)",
            "z (s=1)", "H1(1=1)", "z(s=-1)", "z(s=\u00b2)"};
        int[] places = {1, 1, 2, 0, 1, 3, 5, 2, 7, 6, 6,
            1, 1, 3, 3, 5, 4, 2, 6, 6, 3, 3,
            3, 2, 2, 6, 4, 4, 2, 2, 7,
            1, 0, 4, 4};
        for (int k = 0; k < texts.length; k++) due("fault in " + texts[k], law(x, texts[k]), -1000 - places[k]);
        due("five digits", law(x, "t00099(s=99999)"), 1);
        due("a sixth digit", law(x, "t123456(s=0)"), -2006);
        due("a sixth digit is the first", law(x, "t1234567890x(s=0)"), -2006);
        due("a sixth digit in C", law(x, "z(s=000000)"), -2009);
        String fourteen = repeat("z(s=0);", 14);
        due("a 15th clause", law(x, fourteen + "t1(1=1)"), -4098);
        due("a 15th clause, its letter alone", law(x, fourteen + "h"), -4098);
        due("a 15th clause can't start so", law(x, fourteen + "s"), -1098);
        due("no 15th clause", law(x, fourteen), -1098);
        due("14", law(x, fourteen.substring(0, 97)), 14);
        due("six open", law(x, "z((((((s=0))))))"), 1);
        due("a seventh", law(x, "z(((((((s=0)))))))"), -5007);
        due("a seventh [", law(x, "z(!([!([s=0])]"), -1005);
        due("six of all sorts", law(x, "z(!(!([s]=0)))"), 1);
        due("a seventh of all sorts", law(x, "z(!(!([[s]]=0)))"), -5007);
        due("a seventh !", law(x, "z(!!!!!!s=0)"), -5007);
        due("five !", law(x, "z(!!!!!s=0)"), 1);
        due("a ! ends with its piece", law(x, "z(!!!!!s=0&!!!!!s=0|(((((s=0))))))"), 1);
        due("a ! is open in its piece", law(x, "z(!!!!!s=[0])"), -5009);
        due("E ahead of the (", law(x, "h[[[[[[5]]]]]]((((((s=0))))))"), 1);
        due("a seventh in E", law(x, "h[[[[[[[5]]]]]]](s=0)"), -5007);
        due("a seventh that can't stand", law(x, "z((((((s=(0)))))))"), -1009);
        due("the first from the left", law(x, "t123456(((((((s"), -2006);
        due("none is in force but the last good one", x.count(3), 1);
    }

    /** One letter, street 7, rank 2, weight 50, letter 1, place 1, go 0, no last hole, nine holes. */
    private static void reckoning() {
        String[] yes = {"s=7", "r=2", "w=50", "i=1", "p=1", "g=0", "o=9", "n=9", "1+2*3=7", "[1+2]*3=9", "10-3-2=5", "100/7/2=7",
            "7*3/2=10", "7/2*3=9", "17%10%4=3", "2*3%4=2", "0-7/2=0-3", "[0-7]/2=[0-3]", "[0-7]%4=0-3",
            "!s=1", "!!s=7", "!(s=1|s=2)", "s=1|s=7", "s=7&w=50|1=2", "1=2&1=1|1=1", "1=1|1=2&1=2", "s=7|1/0=1", "!s=7&1/0=1|s=7",
            "(s=1&1%0=1)|s=7", "s<8&s>6", "0<1", "0-1<0", "50000*50000<0", "!(1=2&1/0=0)", "65536%32768*99999=0",
            "[0-2]*[16384*65535+16384]/[0-1]<0", "[32768*65536]/[0-1]<0", "[32768*65536]%[0-1]=0"};
        String[] no = {"s=8", "1=2", "s<7", "s>7", "1/0=1", "!1/0=1", "1/0=1|s=7", "s=7&1%0=0|s=7", "!(1=1&1/0=1)", "((1/0=1))|1=1",
            "0*[1/0]=0", "1/0=1/0", "1=1&!(s=7|1/0=1)", "[s-7]/[s-7]=1|1=1", "1=2|1=2&1=1"};
        for (String c : yes) dueHolds(c, true);
        for (String c : no) dueHolds(c, false);
        dueHolds("99999*99999/50000=28197", true);
        NineHoles x = heap(7);
        due("first that holds", law(x, "h1(s=8);h2(s>6);h3(s=7)"), 3);
        due("first that holds", x.letterIs(0, 4), 2);
        law(x, "h0-1(1=1)");
        due("beyond the bound", x.letterIs(0, 4), 0);
        law(x, "h9(1=1)");
        due("beyond the bound", x.letterIs(0, 4), 8);
        law(x, "h5/[s-7](1=1);h4(1=1)");
        due("refused", x.letterIs(0, 4), 0);
        law(x, "h5(1/0=1);h4(1=1)");
        due("a refused C does not hold", x.letterIs(0, 4), 4);
        law(x, "z(1/0=1);z(1=2);h5(1=2)");
        due("none: 0", x.letterIs(0, 4), 0);
        law(x, "z(1=2);h3(1=1);z(s=7)");
        due("any z", x.letterIs(0, 4), -2);
        law(x, "t500(1=1)");
        due("seconds: the bound", x.tried(1, 0), 99);
        law(x, "t0-5(1=1)");
        due("seconds: the other bound", x.tried(1, 0), 0);
        law(x, "t5%0(1=1)");
        due("seconds: refused", x.tried(1, 0), 0);
    }

    private static void dueHolds(String c, boolean want) {
        NineHoles x = new NineHoles();
        x.letter(0, 0, 0);
        x.letter(7, 50, 0);
        x.rank(7, 2);
        int clauses = law(x, "h1(" + c + ")");
        due("reading " + c, clauses, 1);
        due(c, x.letterIs(1, 4), want ? 1 : 0);
    }

    private static void orders() {
        about("promise 7");
        NineHoles x = heap(1, 2, 3);
        x.letter(4, 0, 5);
        due("true", order(x, 2, 0, 1), true);
        dueHeap("as told", x, 2, 0, 1);
        due("empty then", x.count(4), 0);
        feed(x, 0, 1, 2);
        due("another n", x.order(2), false);
        due("another n", x.order(4), false);
        due("-1", x.order(-1), false);
        due("it stays", x.count(4), 20);
        due("twice", order(x, 0, 1, 1), false);
        due("empty then", x.count(4), 0);
        due("has not come", order(x, 0, 1, 3), false);
        due("no such letter", order(x, 0, 1, 200), false);
        due("has not so many", x.order(3), false);
        dueHeap("as it was", x, 2, 0, 1);
        NineHoles none = new NineHoles();
        none.feed(0, 0, 0, 0, 0);
        due("none", none.order(0), true);
        due("empty then", none.count(4), 0);
    }

    private static void letterIs() {
        about("promise 8");
        NineHoles x = new NineHoles();
        x.letter(4, 7, 0);
        x.letter(5, 60, 2);
        x.letter(6, 80, 0);
        law(x, "hs+g(1=1);z(w>70)");
        int[][] want = {{4, 7, 0, 9, 4}, {5, 60, -2, 9, -2}, {6, 80, 1, 9, -2}};
        for (int i = 0; i < 3; i++) for (int what = 0; what < 5; what++) due("letter " + i + ", " + what, x.letterIs(i, what), want[i][what]);
        due("what -1", x.letterIs(0, -1), -1);
        due("what 5", x.letterIs(0, 5), -1);
        due("letter -1", x.letterIs(-1, 0), -1);
        due("letter 3", x.letterIs(3, 0), -1);
        x.goes(2);
        int[][] then = {{4, 7, 2, 5, 6}, {5, 60, 1, 6, 7}, {6, 80, 0, 9, -2}};
        then[0][2] = 1;
        then[1][2] = 2;
        for (int i = 0; i < 3; i++) for (int what = 0; what < 5; what++) due("then " + i + ", " + what, x.letterIs(i, what), then[i][what]);
    }

    private static void places() {
        about("promise 9");
        NineHoles x = heap(5, 4);
        due("-1", x.at(-1), -1);
        due("0", x.at(0), 0);
        due("1", x.at(1), 1);
        due("2", x.at(2), -1);
        due("far", x.at(Integer.MAX_VALUE), -1);
    }

    private static void goes() {
        about("promise 10");
        NineHoles x = heap(2, 1, 2, 0, 1);
        x.rack(3, 2);
        law(x, "hs(1=1);ts+1(1=1)");
        due("no go", x.goes(0), -1);
        due("13", x.goes(13), -1);
        due("-1", x.goes(-1), -1);
        due("far", x.goes(Integer.MAX_VALUE), -1);
        due("no go has been", x.count(2), 0);
        due("seconds", x.goes(1), 11);
        dueHeap("a queue, a pipe, a queue", x, 3, 4, 1, 0, 2);
        due("seconds of two", x.goes(2), 22);
        dueHeap("a pipe turns round", x, 3, 4, 1, 0, 2);
        due("the go", x.count(2), 3);
        due("above 12", x.goes(10), -1);
        due("to 12", x.goes(9), 99);
        due("at 12", x.goes(1), -1);
        NineHoles y = heap(0, 1, 2, 3);
        law(y, "h3-s(1=1);z(i=1|i=3)");
        y.goes(1);
        dueHeap("those left out are ahead", y, 1, 3, 2, 0);
        due("no throw", y.letterIs(1, 3), 9);
        NineHoles p = heap(0, 0, 0);
        law(p, "h2-p(1=1)");
        p.goes(1);
        dueHeap("asked as the heap is ahead", p, 2, 1, 0);
        NineHoles o = heap(0, 0);
        law(o, "h5-i(o=9);ho-1(o<9)");
        o.goes(3);
        due("last hole 0", o.letterIs(0, 3), 3);
        due("last hole 1", o.letterIs(1, 3), 2);
    }

    private static void tried() {
        about("promise 11");
        NineHoles x = heap(2, 1, 0);
        x.letter(0, 9, 2);
        law(x, "hs(1=1);t2(1=1);z(s=1)");
        due("seconds", x.tried(1, 0), 4);
        due("load", x.tried(1, 1), 2);
        due("throws", x.tried(1, 2), 2);
        due("out", x.tried(1, 3), 1);
        due("seconds of two", x.tried(2, 0), 10);
        due("load of two", x.tried(2, 1), 13);
        due("throws of two", x.tried(2, 2), 5);
        due("place 0", x.tried(2, 10), 1);
        due("place 3", x.tried(2, 13), 0);
        due("no place 3 yet", x.tried(1, 13), -2);
        due("place 31", x.tried(1, 41), -2);
        due("what 42", x.tried(1, 42), -1);
        due("what 4", x.tried(1, 4), -1);
        due("what 9", x.tried(1, 9), -1);
        due("what -1", x.tried(1, -1), -1);
        due("0 goes", x.tried(0, 0), -1);
        due("13 goes", x.tried(13, 0), -1);
        dueHeap("only tried", x, 0, 1, 2);
        due("only tried", x.count(2), 0);
        due("only tried", x.letterIs(0, 3), 9);
        x.goes(11);
        due("12", x.tried(1, 2), 3);
        due("above 12", x.tried(2, 0), -1);
        NineHoles y = heap(1, 0);
        law(y, "hs(1=1)");
        due("in order", y.tried(1, 3), -1);
    }

    private static void out() {
        about("promise 12");
        due("none", heap().out(), -1);
        due("one", heap(5).out(), -1);
        due("like ones", heap(5, 5, 6).out(), -1);
        due("last", heap(5, 5, 6, 5).out(), 3);
        due("first", heap(5, 4, 3).out(), 1);
    }

    private static void forAny() {
        about("promise 13");
        NineHoles x = new NineHoles();
        int[][] want = {{0, 2, -1}, {10001, 2, -1}, {5, 0, -1}, {5, 10, -1}, {-1, 2, -1}, {1, 1, 0}, {2, 1, -2}, {10000, 1, -2}, {1, 9, 0},
            {2, 2, 1}, {3, 2, 2}, {4, 2, 2}, {5, 2, 3}, {9, 9, 1}, {10, 9, 2}, {81, 9, 2}, {82, 9, 3}, {10000, 2, 14}, {8192, 2, 13},
            {10000, 9, 5}, {6561, 9, 4}, {10000, 3, 9}, {2401, 7, 4}, {2402, 7, 5}};
        for (int[] w : want) due(w[0] + " by " + w[1], x.forAny(w[0], w[1]), w[2]);
    }

    private static void runs() {
        about("promise 14");
        NineHoles x = heap(3, 1, 2, 1, 0);
        due("forward", x.runs(0), 4);
        due("backward", x.runs(1), 2);
        due("what 2", x.runs(2), -1);
        due("what -1", x.runs(-1), -1);
        due("none", heap().runs(0), 0);
        due("none", heap().runs(1), 0);
        due("one, forward", heap(4, 4).runs(0), 1);
        due("one, backward", heap(4, 4).runs(1), 1);
        due("in order", heap(0, 5, 5, 19).runs(0), 1);
        due("the other way", heap(0, 5, 5, 19).runs(1), 3);
        due("mixed", heap(1, 2, 1, 2).runs(0), 2);
        x.rank(3, 0);
        due("by ranks", x.runs(0), 3);
        NineHoles late = heap(0, 2);
        late.letter(1, 0, 3);
        due("those in the heap alone", late.runs(0), 1);
    }

    private static void plans() {
        about("promise 15");
        due("none", heap().plan(), 0);
        due("in order", heap(1, 1, 2).plan(), 0);
        NineHoles x = heap(3, 1, 2, 1, 0);
        due("nine queues", x.plan(), 1);
        x.rack(3, 0);
        due("three queues", x.plan(), 2);
        x.rack(3, 1);
        due("a pipe ahead", x.plan(), 1);
        x.rack(1, 0);
        due("one queue", x.plan(), -2);
        x.rack(1, 1);
        due("one pipe", x.plan(), -2);
        NineHoles down = heap(2, 1, 1, 0);
        down.rack(1, 1);
        due("one pipe, the other way round", down.plan(), 1);
        NineHoles far = heap(16, 15, 14, 13, 12, 11, 10, 9, 8, 7, 6, 5, 4, 3, 2, 1, 0);
        far.rack(2, 0);
        due("17 by two queues", far.plan(), 5);
        far.letter(0, 0, 0);
        due("like before", far.plan(), 5);
        about("promise 16");
        x.rack(2, 2);
        due("a queue and a pipe", x.plan(), 2);
        // ways in order: 00 10 (in the queue), then turned round in the pipe: 11 01
        int[][] want = {{0, 1}, {1, 0}, {1, 1}, {1, 0}, {0, 0}};
        due("none beyond", x.planned(0, 2), -2);
        due("go -1", x.planned(0, -1), -2);
        due("letter -1", x.planned(-1, 0), -1);
        due("letter 5", x.planned(5, 0), -1);
        for (int i = 0; i < 5; i++) for (int k = 0; k < 2; k++) due("letter " + i + " in go " + k, x.planned(i, k), want[i][k]);
        x.letter(0, 0, 4);
        due("has not come", x.planned(5, 0), -2);
        x.rack(1, 0);
        due("there is no plan", x.planned(0, 0), -2);
        due("no go in it", heap(1).planned(0, 0), -2);
        // 17 ranks by two queues: rank j goes by the digits of j
        for (int i = 0; i < 17; i++) for (int k = 0; k < 5; k++) due("rank " + (16 - i) + " in go " + k, far.planned(i, k), 16 - i >> k & 1);
    }

    private static void plansDone() {
        about("promise 17");
        NineHoles x = heap(3, 1, 2, 1, 0);
        law(x, "h5(1=1);z(i=2);t9(1=1)");
        x.letter(0, 0, 1);
        x.rack(2, 3);
        due("goes", x.planDone(), 1);
        dueHeap("pipes turn like ones round", x, 4, 3, 1, 2, 0);
        due("the go stays", x.count(2), 0);
        due("last holes, too", x.letterIs(0, 3), 9);
        due("in order already", x.planDone(), 0);
        dueHeap("stays", x, 4, 3, 1, 2, 0);
        NineHoles y = heap(3, 1, 2, 1, 0);
        y.rack(2, 0);
        due("two goes", y.planDone(), 2);
        dueHeap("queues don't", y, 4, 1, 3, 2, 0);
        NineHoles z = heap(3, 1);
        z.rack(1, 0);
        due("none", z.planDone(), -2);
        dueHeap("as it was", z, 0, 1);
    }

    private static void tables() {
        about("promise 18");
        NineHoles x = heap(3, 1, 2, 1, 0);
        x.rack(2, 0);
        int[][] none = {{0, 20, 1}, {-1, 3, 1}, {5, 4, 1}, {0, 5, 0}, {0, 5, 13}};
        for (int[] n : none) due(n[0] + " to " + n[1] + " by " + n[2], x.tables(n[0], n[1], n[2]), -1);
        due("one street", x.tables(1, 1, 1), 0);
        due("none there", x.tables(4, 19, 1), 0);
        due("one there", x.tables(3, 19, 1), 0);
        due("two", x.tables(0, 1, 1), 3);
        due("three by one go", x.tables(0, 2, 1), -2);
        due("three by two", x.tables(0, 2, 2), 7);
        due("all", x.tables(0, 19, 2), 10);
        x.rack(3, 0);
        due("by three holes", x.tables(0, 3, 2), 7);
        x.rack(4, 0);
        due("by four", x.tables(0, 3, 1), 5);
        x.rack(1, 0);
        due("by one hole", x.tables(0, 3, 12), -2);
        due("by one hole, one street", x.tables(0, 0, 12), 0);
        // 8, 1, 1, 1, 1 letters: the long way is cheaper if there are goes enough
        NineHoles y = heap(0, 0, 0, 0, 0, 0, 0, 0, 1, 2, 3, 4);
        y.rack(2, 0);
        due("two goes are too few", y.tables(0, 4, 2), -2);
        due("three goes", y.tables(0, 4, 3), 12 + 4 + 2 + 2);
        due("twelve goes", y.tables(0, 4, 12), 12 + 4 + 2 + 2);
        NineHoles w = heap(0, 0, 0, 0, 0, 0, 0, 0, 1, 1, 1, 1, 2, 2, 3);
        w.rack(2, 0);
        due("even", w.tables(0, 3, 2), 30);
        due("by weight", w.tables(0, 3, 3), 15 + 7 + 3);
        y.letter(9, 0, 3);
        due("those that have come alone", y.tables(4, 19, 1), 0);
    }

    private static void firstStreets() {
        about("promise 19");
        NineHoles x = heap(3, 1, 2, 1, 0);
        x.rack(2, 0);
        due("it can't be", x.table(0, 3, 1, 0), -1);
        due("can't be, not used", x.table(0, 3, 1, 5), -1);
        due("no such streets", x.table(3, 2, 1, 0), -1);
        due("hole -1", x.table(0, 3, 2, -1), -1);
        due("hole 9", x.table(0, 3, 2, 9), -1);
        due("hole 8", x.table(0, 3, 2, 8), -2);
        due("first", x.table(0, 3, 2, 0), 0);
        due("second", x.table(0, 3, 2, 1), 2);
        due("nothing is thrown", x.table(4, 19, 2, 0), -2);
        x.rack(3, 0);
        due("first of three", x.table(0, 3, 2, 0), 0);
        due("second of three", x.table(0, 3, 2, 1), 1);
        due("third of three", x.table(0, 3, 2, 2), 2);
        // streets without letters: fewest holes, and the least row
        NineHoles gaps = heap(2, 7, 12);
        due("from a on", gaps.table(0, 19, 1, 0), 0);
        due("as early as can be", gaps.table(0, 19, 1, 1), 3);
        due("as early as can be", gaps.table(0, 19, 1, 2), 8);
        due("no fourth", gaps.table(0, 19, 1, 3), -2);
        NineHoles w = heap(0, 0, 0, 0, 0, 0, 0, 0, 1, 1, 1, 1, 2, 2, 3);
        w.rack(2, 0);
        due("even", w.table(0, 3, 2, 1), 2);
        due("by weight", w.table(0, 3, 3, 1), 1);
    }

    private static void yards() {
        about("promise 20");
        due("none", heap().yardQueues(), 0);
        due("one", heap(3, 3, 4).yardQueues(), 1);
        due("falling", heap(3, 1, 2, 1, 0).yardQueues(), 4);
        due("falling", heap(5, 9, 4, 8, 3, 7).yardQueues(), 3);
        about("promise 21");
        due("none", heap().yardPipes(), 0);
        due("like ones", heap(3, 3, 2).yardPipes(), 1);
        due("rising", heap(3, 1, 2, 1, 0).yardPipes(), 2);
        due("rising", heap(5, 0, 4, 1, 6, 2).yardPipes(), 3);
        NineHoles x = heap(0, 1);
        x.rank(1, 0);
        due("by ranks", x.yardPipes(), 1);
    }

    private static void yardByRack() {
        about("promise 22");
        NineHoles x = heap(3, 1, 2, 1, 0);
        x.rack(2, 2);
        int[] want = {1, 0, 0, 1, 1};
        due("can", x.yard(5, -1), 1);
        for (int p = 0; p < 5; p++) due("place " + p, x.yard(5, p), want[p]);
        due("place 5", x.yard(5, 5), -3);
        due("place -2", x.yard(5, -2), -3);
        due("n 0", x.yard(0, -1), -1);
        due("n 6", x.yard(6, -1), -1);
        due("n 11", x.yard(11, -1), -1);
        due("the first three", x.yard(3, 0), 1);
        due("the first three", x.yard(3, 1), 0);
        due("the first three", x.yard(3, 3), -3);
        x.rack(1, 0);
        due("can't", x.yard(5, -1), 0);
        due("can't", x.yard(5, 0), -2);
        due("no such place first", x.yard(5, 5), -3);
        due("one can", x.yard(1, 0), 0);
        x.rack(2, 3);
        due("pipes", x.yard(4, 2), 1);
        NineHoles ten = heap(9, 8, 7, 6, 5, 4, 3, 2, 1, 0, 5);
        due("ten falling, nine queues", ten.yard(10, -1), 0);
        ten.rack(9, 256);
        due("ten falling, a pipe", ten.yard(10, -1), 1);
        due("least row", ten.yard(10, 0), 0);
        due("least row", ten.yard(10, 8), 8);
        due("least row", ten.yard(10, 9), 8);
        due("eleven", ten.yard(11, -1), -1);
    }

    private static void together() {
        about("promise 23");
        NineHoles x = heap(3, 1, 2, 1, 0);
        due("runs", x.together(-1), 2);
        int[] want = {1, 0, 3, 2};
        for (int p = 0; p < 4; p++) due("place " + p, x.together(p), want[p]);
        due("place 4", x.together(4), -3);
        due("place -2", x.together(-2), -3);
        due("none", heap().together(-1), -2);
        due("none, no such place", heap().together(3), -2);
        NineHoles nine = heap(19, 3, 12, 5, 7, 8, 2, 11);
        due("eight by places", nine.together(-1), 1);
        due("as they lie", nine.together(2), 12);
        nine.letter(0, 0, 0);
        due("nine", nine.together(-1), -2);
        due("nine, no such place", nine.together(20), -2);
        NineHoles knot = heap(4, 9, 4, 9);
        due("a knot", knot.together(-1), 2);
        due("least row", knot.together(0), 4);
        x.rank(3, 0);
        x.rank(1, 0);
        due("by streets, not ranks", x.together(2), 3);
    }

    private static void blunders() {
        about("promise 24");
        NineHoles x = heap(0, 1, 2, 3);
        x.letter(1, 0, 2);
        law(x, "hs(1=1);z(i=3)");
        due("where", x.blunder(1, 0, 0, 3, 0), 3);
        due("how far", x.blunder(1, 0, 0, 3, 1), 2);
        due("how many others", x.blunder(1, 0, 0, 3, 2), 2);
        due("mended by the next go", x.blunder(2, 0, 0, 2, 1), 0);
        due("like ones are not", x.blunder(2, 1, 4, 0, 0), 2);
        due("left out", x.blunder(1, 0, 3, 2, 0), -2);
        due("there anyway", x.blunder(1, 0, 2, 2, 0), -2);
        due("has not come", x.blunder(2, 0, 4, 2, 0), -2);
        due("0 goes", x.blunder(0, 0, 0, 2, 0), -1);
        due("13 goes", x.blunder(13, 0, 0, 2, 0), -1);
        due("go -1", x.blunder(2, -1, 0, 2, 0), -1);
        due("go 2", x.blunder(2, 2, 0, 2, 0), -1);
        due("letter 5", x.blunder(2, 0, 5, 2, 0), -1);
        due("letter -1", x.blunder(2, 0, -1, 2, 0), -1);
        due("hole 9", x.blunder(2, 0, 0, 9, 0), -1);
        due("hole -1", x.blunder(2, 0, 0, -1, 0), -1);
        due("what 3", x.blunder(2, 0, 0, 2, 3), -1);
        due("what -1", x.blunder(2, 0, 0, 2, -1), -1);
        dueHeap("as it was", x, 0, 1, 2, 3);
        due("as it was", x.letterIs(0, 3), 9);
        NineHoles o = heap(0, 0);
        law(o, "h3(o=9);ho(o<9)");
        due("the hole stays with it", o.blunder(3, 0, 0, 5, 0), 1);
        o.goes(10);
        due("to 12", o.blunder(2, 0, 0, 5, 0), 1);
        due("above 12", o.blunder(3, 0, 0, 5, 0), -1);
    }

    private static void badly() {
        about("promise 25");
        NineHoles x = heap(3, 1, 2, 1, 0);
        law(x, "hs(1=1);z(i=4)");
        // rightly: 4, 1, 3, 2, 0
        due("how many", badly(x, 1, -1, 4, 1, 2, 3, 0), 2);
        due("go", badly(x, 1, 0, 4, 1, 2, 3, 0), 0);
        due("letter", badly(x, 1, 1, 4, 1, 2, 3, 0), 2);
        due("hole", badly(x, 1, 2, 4, 1, 2, 3, 0), 1);
        due("empty then", x.count(4), 0);
        due("as it should be", badly(x, 1, -1, 4, 1, 3, 2, 0), -3);
        due("as it should be", badly(x, 1, 0, 4, 1, 3, 2, 0), -3);
        due("none", badly(x, 1, 0, 0, 1, 2, 3, 4), -2);
        due("none, the letter", badly(x, 1, 1, 0, 1, 2, 3, 4), -2);
        due("none, the hole", badly(x, 1, 2, 0, 1, 2, 3, 4), -2);
        due("none, how many", badly(x, 1, -1, 0, 1, 2, 3, 4), 0);
        due("how many behind a search that found some", badly(x, 1, -1, 4, 1, 2, 3, 0), 2);
        due("one twice, how many", badly(x, 1, -1, 4, 1, 2, 3, 3), 0);
        due("one twice", badly(x, 1, 0, 4, 1, 2, 3, 3), -2);
        due("another letter, how many", badly(x, 1, -1, 4, 1, 2, 3, 77), 0);
        due("another letter", badly(x, 1, 2, 4, 1, 2, 3, 77), -2);
        due("empty behind none, too", x.count(4), 0);
        feed(x, 4, 1, 2, 3, 0);
        due("0 goes", x.badly(0, -1), -1);
        due("7 goes", x.badly(7, -1), -1);
        due("what 3", x.badly(1, 3), -1);
        due("what -2", x.badly(1, -2), -1);
        due("the tape stays", x.count(4), 20);
        x.check(0);
        due("has not so many", x.badly(1, -1), -1);
        NineHoles two = heap(2, 1, 0);
        law(two, "hs(1=1)");
        due("an early one is mended", badly(two, 2, -1, 1, 2, 0), 1);
        due("the second go", badly(two, 2, 0, 1, 2, 0), 1);
        due("the letter", badly(two, 2, 1, 1, 2, 0), 2);
        due("the hole", badly(two, 2, 2, 1, 2, 0), 2);
        dueHeap("as it was", two, 0, 1, 2);
        two.goes(11);
        due("the last go", badly(two, 1, 0, 1, 2, 0), 0);
        due("above 12", badly(two, 2, 0, 1, 2, 0), -1);
        NineHoles late = heap(1);
        late.letter(0, 0, 1);
        law(late, "hs(1=1)");
        due("with those that come", badly(late, 1, 1, 0, 1), 0);
        NineHoles many = new NineHoles();
        for (int i = 0; i < 32; i++) many.letter(i % 20, 0, 0);
        due("32 letters, 20 bytes", badly(many, 1, 0, 0, 1, 2), -1);
        due("the tape stays", many.count(4), 20);
        NineHoles nobody = new NineHoles();
        due("no letters are as they should be", nobody.badly(6, -1), -3);
        NineHoles oneHole = heap(0, 0);
        oneHole.rack(1, 0);
        due("no other hole, how many", badly(oneHole, 1, -1, 1, 0), 0);
        due("no other hole", badly(oneHole, 1, 0, 1, 0), -2);
    }

    private static void clerks() {
        about("promise 26");
        NineHoles x = new NineHoles();
        x.letter(0, 1, 0);
        x.letter(0, 2, 0);
        x.letter(0, 3, 0);
        x.letter(0, 50, 0);
        x.letter(0, 4, 1);
        law(x, "tw(1=1);z(w>9)");
        int[] want = {10, 9, 7, 6, 6, 10};
        for (int k = 0; k <= 5; k++) due("the first " + k, x.clerks(k), want[k]);
        due("best", x.clerks(-1), 3);
        due("6", x.clerks(6), -2);
        due("-2", x.clerks(-2), -2);
        dueHeap("nobody came", x, 0, 1, 2, 3);
        due("none", heap().clerks(-1), 0);
        x.goes(12);
        due("go 12", x.clerks(-1), -1);
        due("go 12", x.clerks(99), -1);
    }

    private static void wanted() {
        about("promise 27");
        NineHoles x = new NineHoles();
        x.letter(3, 2, 0);
        x.letter(1, 3, 0);
        x.letter(2, 0, 0);
        x.letter(1, 4, 0);
        x.letter(4, 90, 0);
        law(x, "tw(1=1);z(s=1);h1(1=1)");
        due("street 1: let lie", x.wanted(2), 9);
        due("street 2: let lie", x.wanted(4), 2);
        due("street 3", x.wanted(8), 2);
        due("all", x.wanted((1 << 20) - 1), 99);
        law(x, "t0(s=2|s=3);t5(1=1)");
        due("all thrown", x.wanted(2), 10);
        due("no street", x.wanted(0), -1);
        due("no such streets", x.wanted(1 << 20), -1);
        due("no such streets", x.wanted(-1), -1);
        due("none of them", x.wanted(1), -2);
        x.letter(0, 0, 1);
        due("has not come", x.wanted(1), -2);
        law(x, "tg(1=1)");
        x.goes(1);
        due("as for the next go", x.wanted(8), 1);
    }

    private static void shuffled() {
        about("promise 28");
        NineHoles x = heap(0, 1, 2, 3, 4);
        due("-1", x.seed(-1), false);
        due("65536", x.seed(65536), false);
        due("as it was", x.count(5), 1);
        due("65535", x.seed(65535), true);
        due("told", x.count(5), 65535);
        due("0", x.seed(0), true);
        due("told", x.count(5), 0);
        x.seed(1);
        about("promise 29");
        due("out", x.shuffle(), 1);
        dueHeap("shuffled", x, 4, 1, 0, 3, 2);
        int at = 1;
        for (int k = 0; k < 4; k++) at = (25173 * at + 13849) % 65536;
        due("X", x.count(5), at);
        NineHoles one = heap(7);
        due("one", one.shuffle(), -1);
        due("no number was taken", one.count(5), 1);
    }

    private static void keptAndUndone() {
        about("promise 30");
        NineHoles x = heap(2, 1);
        law(x, "hs(1=1)");
        x.letter(0, 0, 2);
        x.seed(5);
        due("in the heap", x.keep(), 2);
        x.letter(9, 9, 0);
        x.goes(2);
        x.shuffle();
        x.rank(3, 7);
        x.rack(5, 1);
        x.feed(0, 0, 0, 0, 0);
        about("promise 31");
        due("true", x.undo(), true);
        dueHeap("heap", x, 0, 1);
        int[] want = {3, 2, 0, 1, 20, 5, 5, 1, 6, 2};
        for (int what = 0; what < 10; what++) due("count " + what, x.count(what), want[what]);
        due("ranks stay", x.count(23), 7);
        due("last hole", x.letterIs(0, 3), 9);
        due("not come", x.letterIs(2, 2), -2);
        due("the next number", x.letter(4, 44, 0), 3);
        due("its last hole", x.letterIs(3, 3), 9);
        due("again", x.undo(), true);
        due("again", x.count(0), 3);
        x.goes(1);
        x.keep();
        x.goes(1);
        x.undo();
        due("kept last", x.count(2), 1);
        due("last holes", x.letterIs(0, 3), 2);
        due("none was kept", heap(1).undo(), false);
    }

    private static void checks() {
        about("promise 32");
        NineHoles x = heap(1, 2, 3);
        due("right", check(x, 3, 0, 1, 2), -1);
        due("empty then", x.count(4), 0);
        due("the first two", check(x, 2, 0, 1, 9), -1);
        due("wrong", check(x, 3, 0, 2, 1), 1);
        due("all four bytes", check(x, 3, 0, 257, 2), 1);
        due("the highest byte", check(x, 3, 0x01000000, 1, 2), 0);
        due("more than there are", check(x, 4, 0, 1, 2, 3), 3);
        due("more, but one is wrong ahead", check(x, 5, 0, 2, 2, 3, 4), 1);
        x.feed(0, 1, 2, 3, 4);
        due("33", x.check(33), -2);
        due("-1", x.check(-1), -2);
        due("has not so many", x.check(6), -2);
        due("far", x.check(1 << 30), -2);
        due("the tape stays", x.count(4), 20);
        due("none", x.check(0), -1);
        due("empty then", x.count(4), 0);
        int[] all = new int[32];
        NineHoles full = new NineHoles();
        for (int i = 0; i < 32; i++) all[i] = full.letter(1, 1, 0);
        due("32", check(full, 32, all), -1);
    }

    private static void counts() {
        about("promise 33");
        NineHoles x = heap(4, 4, 19);
        x.letter(7, 30, 2);
        x.feed(0, 0, 0, 0, 0);
        x.rack(4, 9);
        x.rank(19, 3);
        int[] want = {4, 3, 0, 0, 20, 1, 4, 9, 1 << 4 | 1 << 19, 3};
        for (int what = 0; what < 10; what++) due("count " + what, x.count(what), want[what]);
        due("what 10", x.count(10), -1);
        due("what 19", x.count(19), -1);
        due("what 20", x.count(20), 0);
        due("what 39", x.count(39), 3);
        due("what 40", x.count(40), -1);
        due("what -1", x.count(-1), -1);
        x.goes(2);
        due("weights with the one that came", x.count(9), 33);
        due("streets with the one that came", x.count(8), 1 << 4 | 1 << 7 | 1 << 19);
    }

    private static void asReadmeShows() {
        about("README.md");
        NineHoles x = new NineHoles();
        due("there at once", x.letter(4, 10, 0), 0);
        due("comes later", x.letter(1, 10, 2), 1);
        due("fed", x.feed(0x68732831, 0x3d312900, 0, 0, 0), 20);
        due("a law", x.law(7), 1);
        due("seconds", x.goes(2), 0);
        due("on top", x.at(0), 1);
        due("four clauses", law(x, "h8(w>50);hs%n(1=1);t1+w/10(1=1);z(g=0&o=9&s<2)"), 4);
    }
}
