/** What a text of THE LAW may hold, its FAULTS and how it is reckoned: each sentence that names a boundary by itself. */
public final class LawBoundariesTest extends Office {
    private static final String MOST = "[32768*65535+32767]";
    private static final String LEAST = "[32768*65536]";

    public static void main(String[] args) {
        sizes();
        tapes();
        noLaw();
        clauses();
        bounds();
        whichClause();
        parts();
        signs();
        order();
        wrapAround();
        dividedByZero();
        asMuchAsMatters();
        misplaced();
        theEnd();
        sixthDigit();
        fifteenthClause();
        seventhOpen();
        firstFromTheLeft();
        end("LawBoundariesTest");
    }

    /** Street 7, rank 2, weight 50, letter 1, place 1 of two, nine holes. */
    private static NineHoles seven() {
        NineHoles x = new NineHoles();
        x.letter(0, 0, 0);
        x.letter(7, 50, 0);
        x.rank(7, 2);
        return x;
    }

    private static void dueRead(String text, int want) {
        due(text, law(new NineHoles(), text), want);
    }

    private static void dueMisplaced(int place, String... texts) {
        for (String text : texts) dueRead(text, -1000 - place);
    }

    private static void dueHolds(boolean want, String... conditions) {
        for (String c : conditions) {
            NineHoles x = seven();
            due(c + " is read", law(x, "h1(" + c + ")"), 1);
            due(c, x.letterIs(1, 4), want ? 1 : 0);
        }
    }

    private static void dueHole(String text, int want) {
        NineHoles x = seven();
        due(text + " is read", law(x, text) > 0, true);
        due(text, x.letterIs(1, 4), want);
    }

    private static void dueSeconds(String text, int want) {
        NineHoles x = heap(7);
        due(text + " is read", law(x, text) > 0, true);
        due(text, x.tried(1, 0), want);
    }

    private static void sizes() {
        about("a TEXT of at most 200 bytes");
        String full = "z(" + "s=9|".repeat(48) + "s=003)";
        due("200 bytes", full.length(), 200);
        dueRead(full, 1);
        dueRead(full.replace("s=003)", "s=003"), -1199);
        due("201 bytes are no such n", law(new NineHoles(), full + ";"), -1);
        NineHoles x = new NineHoles();
        feed(x, bytes(full));
        due("the 200 with more behind them", x.law(200), 1);

        about("law: NONE: no such n (1 to 200)");
        for (int n : new int[] {0, -1, 201, 220, 221, Integer.MIN_VALUE, Integer.MAX_VALUE}) {
            NineHoles y = new NineHoles();
            for (int k = 0; k < 11; k++) y.feed(0x7a28733d, 0x30290000, 0, 0, 0);
            due("n " + n, y.law(n), -1);
            due("n " + n + ": the tape stays", y.count(4), 220);
            due("n " + n + ": its bytes, too", y.law(6), 1);
        }
        dueRead("z", -1001);

        about("law: THE LAW by the first n bytes of the tape");
        NineHoles first = new NineHoles();
        feed(first, bytes("z(s=0);h1(s=0)"));
        due("one byte less than a clause", first.law(5), -1005);
        feed(first, bytes("z(s=0);h1(s=0)"));
        due("the first clause alone", first.law(6), 1);
        due("one", first.count(3), 1);
    }

    private static void tapes() {
        about("law: NONE: the tape has not so many (the tape stays)");
        NineHoles x = new NineHoles();
        due("of none", x.law(1), -1);
        feed(x, bytes("z(s=0000000)        "));
        due("21 of 20", x.law(21), -1);
        due("the tape stays", x.count(4), 20);
        due("20 of 20 are so many", x.law(20), -2009);
        due("none is left", x.law(1), -1);

        about("law: the tape is empty then");
        NineHoles y = new NineHoles();
        feed(y, new int[40]);
        feed(y, bytes("z(s=0)"));
        due("a FAULT", y.law(1), -1000);
        due("behind a FAULT", y.count(4), 0);
        feed(y, bytes("z(s=0)z(s=0)z(s=0)z(s=0)"));
        due("one that is read", y.law(6), 1);
        due("behind one that is read", y.count(4), 0);

        about("law: a FAULT: the TEXT before stays");
        for (String bad : new String[] {"h2(s=7)z", "h2(s=123456)", "h2(1=1);".repeat(14) + "h2(1=1)", "h2(((((((1=1)))))))"}) {
            NineHoles z = heap(7);
            law(z, "h5(s=7);t8(s=7)");
            due(bad, law(z, bad) < -1, true);
            due("clauses", z.count(3), 2);
            due("hole", z.letterIs(0, 4), 5);
            due("seconds", z.tried(1, 0), 8);
        }

        about("law: many, one in place of the other");
        NineHoles many = heap(7);
        for (int k = 0; k < 40; k++) {
            String text = "h" + "0+".repeat(k) + k % 9 + "(!!!!!1=2);z(!!!!s=" + (k % 2 == 0 ? 8 : 7) + ")";
            due("read " + k, law(many, text), 2);
            due("asked " + k, many.letterIs(0, 4), k % 2 == 0 ? k % 9 : -2);
        }
        law(many, "h1(1=1);z(1=1)");
        law(many, "z(!!!!!1=2)");
        due("a short one", law(many, "h2(1=1)"), 1);
        due("none of the others is asked", many.letterIs(0, 4), 2);
        due("another short one", law(many, "h3(1=1)"), 1);
        due("none of the others is asked", many.letterIs(0, 4), 3);
        law(many, "z(1=2);h5(1=1)");
        law(many, "z(!!!!!1=1)");
        due("one without h", law(many, "z(1=2)"), 1);
        due("none of the others is asked", many.letterIs(0, 4), 0);

        about("law: in place of the one before");
        NineHoles w = heap(7);
        law(w, "h5(s=7);t8(s=7);z(s=8)");
        due("read", law(w, "z(s=9)"), 1);
        due("clauses", w.count(3), 1);
        due("its h is gone", w.letterIs(0, 4), 0);
        due("its t is gone", w.tried(1, 0), 0);
    }

    private static void noLaw() {
        about("THE LAW: none at first");
        NineHoles x = heap(7, 8);
        due("clauses", x.count(3), 0);
        due("hole", x.letterIs(1, 4), 0);
        due("seconds", x.tried(1, 0), 0);
        due("none is left out", x.tried(1, 2), 2);
    }

    private static void clauses() {
        about("CLAUSES: 14 at most");
        for (int n = 1; n <= 14; n++) dueRead("z(s=0);".repeat(n - 1) + "z(s=0)", n);
        NineHoles x = heap(7);
        law(x, "h1(s=0);".repeat(13) + "h2(s=7)");
        due("the last one is asked", x.letterIs(0, 4), 2);

        about("CLAUSES with a ; between two");
        dueRead("z(s=0)z(s=0)", -1006);
        dueRead("z(s=0),z(s=0)", -1006);
        dueRead("z(s=0);;z(s=0)", -1007);
        dueRead(";z(s=0)", -1000);
        dueRead(";", -1000);
    }

    private static void bounds() {
        about("into which HOLE: beyond its bounds the bound (0 to the last HOLE)");
        dueHole("h8(1=1)", 8);
        dueHole("h9(1=1)", 8);
        dueHole("h0(1=1)", 0);
        dueHole("h0-1(1=1)", 0);
        dueHole("h" + MOST + "(1=1)", 8);
        dueHole("h" + LEAST + "(1=1)", 0);
        NineHoles x = heap(7);
        law(x, "h5(1=1)");
        for (int holes = 1; holes <= 9; holes++) {
            x.rack(holes, 0);
            due("five of " + holes + " HOLES", x.letterIs(0, 4), Math.min(5, holes - 1));
        }

        about("SECONDS that a throw takes: beyond its bounds the bound (0 to 99)");
        dueSeconds("t99(1=1)", 99);
        dueSeconds("t100(1=1)", 99);
        dueSeconds("t0(1=1)", 0);
        dueSeconds("t0-1(1=1)", 0);
        dueSeconds("t" + MOST + "(1=1)", 99);
        dueSeconds("t" + LEAST + "(1=1)", 0);

        about("none: 0");
        dueHole("h5(1=2);z(1=2);t7(1=1)", 0);
        dueSeconds("t5(1=2);z(1=2);h7(1=1)", 0);
    }

    private static void whichClause() {
        about("of each the E of the first CLAUSE whose C holds");
        dueHole("h1(s=8);h2(s=7);h3(s=7)", 2);
        dueSeconds("t1(s=8);t2(s=7);t3(s=7)", 2);
        dueHole("t1(s=7);h2(s=7)", 2);
        dueSeconds("h1(s=7);t2(s=7)", 2);

        about("z: a LETTER for which it holds is left out (any z will do)");
        dueHole("z(1=2);h3(1=1);z(s=7)", -2);
        dueHole("z(s=7);h3(1=1);z(1=2)", -2);
        dueHole("z(1=2);h3(1=1);z(s=8)", 3);
    }

    private static void parts() {
        about("PARTS with a | between two, one of which must hold");
        dueHolds(true, "1=1", "1=1|1=2", "1=2|1=1", "1=2|1=2|1=1", "1=1|1=1");
        dueHolds(false, "1=2", "1=2|1=2", "1=2|1=2|1=2");

        about("PIECES with an & between two, all of which must");
        dueHolds(true, "1=1&1=1", "1=1&1=1&1=1", "1=2|1=1&1=1", "1=1&1=1|1=2");
        dueHolds(false, "1=1&1=2", "1=2&1=1", "1=1&1=1&1=2", "1=2&1=1&1=1", "1=1&1=2|1=2&1=1");

        about("a PIECE: !PIECE, (C)");
        dueHolds(true, "!1=2", "!!1=1", "!(1=2)", "!!!!!1=2", "(1=2|1=1)&1=1", "!1=2&1=1", "!1=1|1=1", "!(1=1&1=2)", "!(!1=1|1=2)",
            "1=1|!1=1", "1=1|!1=2", "!(1=2&!1=2)", "(1=1|!1=1)&!1=2");
        dueHolds(false, "!1=1", "!!1=2", "!(1=1)", "!!!!!1=1", "(1=1|1=1)&1=2", "!1=1&1=1", "!(1=2|1=1)", "!1=2&1=2", "1=2&!1=2", "1=2&!1=1",
            "!(1=1|!1=1)");

        about("one of < > =");
        dueHolds(true, "1<2", "2>1", "2=2", "0-1<0", "0>0-1", "!2<1", "!1>2", "!1=2", "1<2|1/0=1", "2>1|1/0=1", "1=1|1/0=1");
        dueHolds(false, "2<2", "2>2", "2<1", "1>2", "1=2", "0-1>0", "!1<2", "!2>1", "!1=1", "2<1&1/0=1", "1>2&1/0=1");
    }

    private static void signs() {
        about("a number of one to five digits");
        dueHolds(true, "7=00007", "0=00000", "99999>99998", "[99999+1]/10=10000", "10*10=100", "9+1=10");

        about("s STREET, r its RANK, w WEIGHT, i the LETTER's number, p its place");
        NineHoles x = new NineHoles();
        for (int i = 0; i < 32; i++) x.letter(i == 31 ? 19 : 0, i == 31 ? 99 : 0, 0);
        x.rank(0, 19);
        x.rank(19, 0);
        law(x, "h1(i=31&s=19&r=0&w=99&p=31);h2(i=0&s=0&r=19&w=0&p=0)");
        due("the last", x.letterIs(31, 4), 1);
        due("the first", x.letterIs(0, 4), 2);
        due("another", x.letterIs(1, 4), 0);
        NineHoles turned = heap(3, 4);
        order(turned, 1, 0);
        law(turned, "h5(p=0&i=1);h6(p=1&i=0)");
        due("on top is another", turned.letterIs(1, 4), 5);
        due("the place is not the number", turned.letterIs(0, 4), 6);

        about("g THE GO (the first one is 0)");
        NineHoles y = heap(7);
        law(y, "tg+1(1=1)");
        for (int go = 0; go < 12; go++) due("go " + go, y.goes(1), go + 1);

        about("o the HOLE of its last throw (9: none)");
        NineHoles z = heap(7, 6);
        law(z, "h8(o=9);ho-1(o<9);z(s=6)");
        for (int go = 0; go < 12; go++) {
            due("thrown into", z.letterIs(0, 4), Math.max(0, 8 - go));
            z.goes(1);
            due("thrown", z.letterIs(0, 3), Math.max(0, 8 - go));
            due("never thrown", z.letterIs(1, 3), 9);
        }

        about("n how many HOLES there are");
        NineHoles w = heap(7);
        law(w, "tn(1=1)");
        for (int holes = 1; holes <= 9; holes++) {
            w.rack(holes, 0);
            due(holes + " HOLES", w.tried(1, 0), holes);
        }
    }

    private static void order() {
        about("from the left on");
        dueHolds(true, "10-3-2=5", "100/7/2=7", "100/[7/2]=33", "7*3/2=10", "7/2*3=9", "17%10%4=3", "2*3%4=2", "1+2*3=7",
            "[1+2]*3=9", "10-2*3=4", "10-4/2=8", "1-2+3=2", "7-[2+3]=2", "[0-7]/2=0-3", "[0-7]%4=0-3", "7/[0-2]=0-3", "7%[0-4]=3");
    }

    private static void wrapAround() {
        about("all is reckoned with 32 bits");
        dueHolds(true, MOST + ">0", MOST + "+1<0", MOST + "+1=" + LEAST, LEAST + "-1=" + MOST, LEAST + "<" + MOST, "0-" + LEAST + "=" + LEAST,
            "99999*99999/50000=28197", "46340*46340>0", "46341*46341<0", "65536*65536=0", LEAST + "+" + LEAST + "=0", MOST + "*2=0-2",
            LEAST + "/[0-1]=" + LEAST, LEAST + "%[0-1]=0", LEAST + "*[0-1]=" + LEAST, MOST + "%65536=65535");
        dueHole("h" + MOST + "+1(1=1)", 0);
        dueHole("h" + LEAST + "-1(1=1)", 8);
        dueSeconds("t65536*65536+4(1=1)", 4);
    }

    private static void dividedByZero() {
        about("what is divided by 0 is REFUSED: then the C as a whole does not hold (through any !, ( ) and |)");
        dueHolds(false, "1/0=0", "1%0=0", "0/0=0", "0%0=0", "1/0=1/0", "!1/0=1", "!!1/0=1", "!(1/0=1)", "(1/0=1)|1=1", "1/0=1|1=1", "1=2|1%0=1|1=1",
            "1=1&1/0=1|1=1", "((1/0=1|1=1)|1=1)|1=1", "!(1=1&!1%0=0)", "0*[1/0]=0", "[1/0]*0=0", "1/[s-7]=0|1=1", "s%[s-7]=0|1=1", "1=1/0|1=1",
            "!(1=2|1/0=0)", "0<1/0|1=1", "(!1/0=0)|1=1", LEAST + "/0<0|1=1");
        NineHoles x = heap(7, 8);
        law(x, "h1(10/[s-7]>0);h2(1=1)");
        due("for the one alone that is divided by 0", x.letterIs(0, 4), 2);
        due("for the other it holds", x.letterIs(1, 4), 1);

        about("a REFUSED C does not hold: the next CLAUSE is asked");
        dueHole("h5(1/0=1);h4(1=1)", 4);
        dueSeconds("t5(1%0=1);t4(1=1)", 4);
        dueHole("z(1/0=1);h4(1=1)", 4);
        dueHole("z(!1/0=1);z(s=7);h4(1=1)", -2);

        about("REFUSED: an E is 0");
        dueHole("h5/0(1=1);h4(1=1)", 0);
        dueHole("h5%0(1=1);h4(1=1)", 0);
        dueHole("h5+1/0(1=1)", 0);
        dueHole("h1/0+5(1=1)", 0);
        dueHole("h5-[3%[s-7]](1=1)", 0);
        dueSeconds("t5/0(1=1);t4(1=1)", 0);
        dueSeconds("t5+9%0(1=1)", 0);
    }

    private static void asMuchAsMatters() {
        about("of a C as much is asked, from the left, as matters");
        dueHolds(true, "1=1|1/0=1", "1=1&1=1|1/0=1", "1=2|1=1|1/0=1", "1=2&1/0=1|1=1", "1=2&1=1&1/0=1|1=1", "(1=1|1/0=1)&1=1", "!(1=2&1/0=0)",
            "!1=1&1/0=1|1=1", "!(1=1|1/0=1)&1/0=1|1=1", "(1=2&1%0=1)|1=1", "1=1|1=1&1/0=1|1%0=1", "(1=1|(1/0=1))&!(1=2&(1/0=1))",
            "1=2&(1/0=1|1/0=1)&1/0=1|1=1");
        dueHolds(false, "1=2&1/0=1", "1=1&1=2&1/0=1", "!(1=1|1/0=1)", "1=2|1=2&1/0=1", "(1=2&1/0=1)|1=2");
        dueHolds(false, "1/0=1|1=1", "1/0=1&1=2|1=1", "1=1&1%0=1|1=1", "1=2|1/0=1|1=1", "1=2&1/0=1|1%0=1|1=1");
    }

    private static void misplaced() {
        about("FAULT 1: what can't stand there, where a CLAUSE begins");
        dueMisplaced(0, "s", "H", "(", "5", " ", "!", "[", "x(s=0)", "\u0000", "\u007f", "\u0080", "\u00e8", "\u00ff");
        dueRead("z(s=0);s(1=1)", -1007);

        about("FAULT 1: where an E begins");
        dueMisplaced(1, "h", "h(1=1)", "h+1(1=1)", "h-1(1=1)", "h*", "h)", "h]", "h!s=1", "h=", "hz", "ht", "hh", "h ");
        dueMisplaced(1, "t(1=1)", "t-1(1=1)");
        dueMisplaced(3, "h1+(1=1)", "h1--1(1=1)", "h1*/2(1=1)", "h1%]");
        dueMisplaced(2, "h[](1=1)", "h[(1)](1=1)", "h[-1](1=1)");

        about("FAULT 1: behind an E");
        dueMisplaced(2, "h5", "h5)", "h5]", "h5;", "h5=", "h5<1", "h5s(1=1)", "hs5(1=1)", "hss(1=1)", "h5[1](1=1)", "h5!", "h5 (1=1)");
        dueRead("h[1(1=1)", -1003);
        dueRead("h[1)(1=1)", -1003);
        dueRead("h[[1]](1=1)", 1);
        dueRead("h[[1](1=1)", -1005);

        about("FAULT 1: where the ( of a CLAUSE is due");
        dueMisplaced(1, "z", "zs=0", "z)", "z5(s=0)", "zs(s=0)", "z[s=0]", "z!(s=0)", "z;");

        about("FAULT 1: where a PIECE begins");
        dueMisplaced(2, "z()", "z(a=0)", "z(=0)", "z(&s=0)", "z(|s=0)", "z(-1=0)", "z(+1=0)", "z(]", "z(;");
        dueMisplaced(3, "z(!)", "z(!&s=0)", "z(!=0)", "z(()", "z((|s=0))");
        dueMisplaced(6, "z(s=1&)", "z(s=1|)", "z(s=1&&s=1)", "z(s=1|&s=1)", "z(s=1&|s=1)");

        about("FAULT 1: where one of < > = is due");
        dueMisplaced(3, "z(1)", "z(s)", "z(s&s=1)", "z(s|s=1)", "z(s!=1)", "z(s", "z(s;", "z(s(1=1))", "z(s]");
        dueRead("z((s)=1)", -1004);
        dueRead("z([s=1])", -1004);

        about("FAULT 1: behind the first E of a PIECE");
        dueMisplaced(4, "z(s=)", "z(s==1)", "z(s<=1)", "z(s>=1)", "z(s<>1)", "z(s=-1)", "z(s=!1)", "z(s=(1))", "z(s=&s=1)");

        about("FAULT 1: behind a PIECE");
        dueMisplaced(5, "z(1=1=1)", "z(1=1<1)", "z(1=1;", "z(1=1]", "z(1=1!", "z(1=1(");
        dueRead("z((1=1)1=1)", -1007);
        dueRead("z((1=1)(1=1))", -1007);
        dueRead("z((1=1)=1)", -1007);
        dueRead("z((1=1)+1=1)", -1007);
        dueRead("z(!1=1!1=1)", -1006);

        about("FAULT 1: behind a CLAUSE");
        dueMisplaced(6, "z(1=1))", "z(1=1)z", "z(1=1)&", "z(1=1)|1=1", "z(1=1),", "z(1=1)h1(1=1)", "z(1=1)!");

        about("no blanks");
        String good = "h1+s(!s=1&(r>2));z(1=1)";
        due("none", law(new NineHoles(), good), 2);
        for (int at = 0; at <= good.length(); at++) dueRead(good.substring(0, at) + " " + good.substring(at), -1000 - at);
        dueRead("z(s=0)\n", -1006);
        dueRead("z(s=0)\u0000", -1006);
    }

    private static void theEnd() {
        about("FAULT 1: the end, too");
        String good = "h1+s*[w](!s=1&(r>2)|o=9);z(1=1)";
        due("whole", law(new NineHoles(), good), 2);
        int whole = good.indexOf(';');
        for (int n = 1; n < good.length(); n++) dueRead(good.substring(0, n), n == whole ? 1 : -1000 - n);
        NineHoles x = new NineHoles();
        feed(x, bytes("z(" + "s=9|".repeat(49) + "s="));
        due("at 200", x.law(200), -1200);
    }

    private static void sixthDigit() {
        about("FAULT 2: a sixth digit, at it");
        dueRead("t12345(s=0)", 1);
        dueRead("t123456(s=0)", -2006);
        dueRead("t1234567890(s=0)", -2006);
        dueRead("t000000(s=0)", -2006);
        dueRead("t12345x(s=0)", -1006);
        dueRead("t1+123456(s=0)", -2008);
        dueRead("t[123456](s=0)", -2007);
        dueRead("z(s=123456)", -2009);
        dueRead("z(999999=s)", -2007);
        dueRead("z(s=12345&12345=12345)", 1);
        dueRead("t123456", -2006);
        dueRead("z(" + "s=9|".repeat(47) + "s=0+123456", -2199);
    }

    private static void fifteenthClause() {
        about("FAULT 4: a 15th CLAUSE, at its letter (if that can stand there)");
        String fourteen = "z(s=0);".repeat(14);
        for (String kind : new String[] {"h", "t", "z", "h1(1=1)", "z(s=0)", "h(", "z("}) dueRead(fourteen + kind, -4098);
        dueRead(fourteen + "s", -1098);
        dueRead(fourteen + ";", -1098);
        dueRead(fourteen + "(s=0)", -1098);
        dueRead(fourteen, -1098);
        dueRead("z(s=0);".repeat(13) + "z(s=0)", 14);
        dueRead("z(s=0);".repeat(13), -1091);
        dueRead("z(s=0);".repeat(13) + "z(s=0)z", -1097);
    }

    private static void seventhOpen() {
        about("FAULT 5: a seventh of ( [ ! that are open in one another, at it");
        dueRead("z((((((s=0))))))", 1);
        dueRead("z(((((((s=0)))))))", -5007);
        dueRead("z(((((((", -5007);
        dueRead("z(!!!!!s=0)", 1);
        dueRead("z(!!!!!!s=0)", -5007);
        dueRead("z([[[[[s]]]]]=0)", 1);
        dueRead("z([[[[[[s]]]]]]=0)", -5007);
        dueRead("z(s=[[[[[0]]]]])", 1);
        dueRead("z(s=[[[[[[0]]]]]])", -5009);
        dueRead("z(!(!([s]=0)))", 1);
        dueRead("z(!(!([[s]]=0)))", -5007);
        dueRead("z((((((!s=0))))))", -5007);
        dueRead("z((((((s=0&!s=1))))))", -5011);
        dueRead("z((((((s=0|(s=1)))))))", -5011);
        dueRead("z(((((([s]=0))))))", -5007);

        about("the ( of the CLAUSE counts");
        dueRead("z(((((((", -5007);
        dueRead("h1((((((s=0))))))", 1);
        dueRead("h1(((((((s=0)))))))", -5008);

        about("a ! is open till its PIECE ends");
        dueRead("z(!!!!!s=0&!!!!!s=0|(((((s=0))))))", 1);
        dueRead("z(!!!!!(s=0))", -5007);
        dueRead("z(!!!!(s=0)&!!!!(s=0))", 1);
        dueRead("z(!!!!([s]=0))", -5007);
        dueRead("z(!!!!!s=[0])", -5009);
        dueRead("z(!!!!(s=0&!s=0))", -5011);
        dueRead("z(!!!!(s=0)&!!!!!s=[0])", -5019);

        about("the E of a CLAUSE stands ahead of its (");
        dueRead("h[[[[[[5]]]]]]((((((s=0))))))", 1);
        dueRead("h[[[[[[[5]]]]]]](s=0)", -5007);
        dueRead("t[[[[[[[5", -5007);
        dueRead("h[[[[[[5]]]]]]+[[[[[[5]]]]]](1=1)", 1);
        dueRead("h[[[[[5]+[5]]+[5]]]](1=1)", 1);
        dueRead("h[[[[5]+[5]]+[5]]]](1=1)", -1018);

        about("what is closed is open no more");
        dueRead("z((((((s=0)))))&(((((s=0))))))", 1);
        dueRead("z([[s]+[s]]+[[[[[s]]]]]=0)", 1);
        dueRead("z((((((s=0)))))&((((((s=0)))))))", -5021);
    }

    private static void firstFromTheLeft() {
        about("FAULTS, the first from the left");
        dueRead("t123456(((((((s", -2006);
        dueRead("z(((((((123456", -5007);
        dueRead("z(((((s=(0", -1008);
        dueRead("z((((((s=(0", -1009);
        dueRead("z((((((123456=0", -2012);
        dueRead("z(s=0);".repeat(13) + "z(123456=0);z(s=0)", -2098);
        dueRead("z(s=0);".repeat(14) + "z(123456=0)", -4098);
        dueRead("z(s=0);".repeat(14) + "x", -1098);
        dueRead("z(s=0)x123456", -1006);
        dueRead("z(s 123456", -1003);

        about("a FAULT: -1000 times its number, less its place");
        dueRead("x", -1000);
        dueRead("h0000000", -2006);
        dueRead("z(" + "s=9|".repeat(48) + "s=9999", -1200);
        dueRead("z(s=9|s=99);".repeat(14) + "z", -4168);
        dueRead("z(" + "s=9|".repeat(46) + "((((((s", -5191);
    }
}
