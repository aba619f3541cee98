import java.util.ArrayList;
import java.util.List;

/** Long runs of calls by a fixed row of numbers, each answer held against the slow model's. */
public final class ModelTest {
    private long row;
    private int wrong = 0;
    private int held = 0;
    private NineHoles x;
    private Model m;
    private List<String> calls;

    private ModelTest(long start) {
        row = start;
    }

    private int upTo(int n) {
        row = row * 6364136223846793005L + 1442695040888963407L;
        return (int) ((row >>> 33) % n);
    }

    /** Mostly from 0 to n - 1, now and then just beyond or far away. */
    private int near(int n) {
        int k = upTo(40);
        if (k == 0) return -1;
        if (k == 1) return n;
        if (k == 2) return upTo(2) == 0 ? Integer.MIN_VALUE : Integer.MAX_VALUE;
        return upTo(n);
    }

    private void due(String call, int got, int want) {
        calls.add(call + " = " + want);
        held++;
        if (got != want) {
            wrong++;
            System.out.println(String.join("\n", calls));
            System.out.println("^ answered " + got);
        }
    }

    private void due(String call, boolean got, boolean want) {
        due(call, got ? 1 : 0, want ? 1 : 0);
    }

    private void feed(List<Integer> bytes) {
        for (int i = 0; i < bytes.size(); i += 20) {
            int[] v = new int[5];
            for (int j = 0; j < 20; j++) v[j / 4] = v[j / 4] << 8 | (i + j < bytes.size() ? bytes.get(i + j) & 255 : upTo(256));
            due("feed(" + v[0] + ", " + v[1] + ", " + v[2] + ", " + v[3] + ", " + v[4] + ")",
                x.feed(v[0], v[1], v[2], v[3], v[4]), m.feed(v[0], v[1], v[2], v[3], v[4]));
        }
    }

    private void empty() {
        due("check(0)", x.check(0), m.check(0));
    }

    // ---- texts

    private String factor(int depth) {
        int k = upTo(10);
        if (k == 0 && depth > 0) return "[" + sum(depth - 1) + "]";
        if (k < 5) return String.valueOf(upTo(k == 1 ? 100000 : k == 2 ? 100 : 10));
        return String.valueOf("srwipgon".charAt(upTo(8)));
    }

    private String term(int depth) {
        StringBuilder s = new StringBuilder(factor(depth));
        for (int k = upTo(8); k > 5; k--) s.append("*/%".charAt(upTo(3))).append(factor(depth));
        return s.toString();
    }

    private String sum(int depth) {
        StringBuilder s = new StringBuilder(term(depth));
        for (int k = upTo(8); k > 5; k--) s.append("+-".charAt(upTo(2))).append(term(depth));
        return s.toString();
    }

    private String piece(int depth) {
        int k = upTo(10);
        if (k == 0 && depth > 0) return "!" + piece(depth - 1);
        if (k == 1 && depth > 0) return "(" + test(depth - 1) + ")";
        return sum(depth) + "<>=".charAt(upTo(3)) + sum(depth);
    }

    private String test(int depth) {
        StringBuilder s = new StringBuilder(piece(depth));
        for (int k = upTo(6); k > 3; k--) s.append("&|".charAt(upTo(2))).append(piece(depth));
        return s.toString();
    }

    private String clause() {
        int k = upTo(7);
        String test = upTo(3) == 0 ? "1=1" : test(3);
        if (k == 0) return "z(w>" + (70 + upTo(30)) + "&" + test + ")";
        if (k < 3) return "t" + sum(2) + "(" + test + ")";
        String[] plain = {"s", "r", "s%n", "r/n", "o+1", "p%n", "i%n", "[s+g]%n", "w/9", "[o+p]%n", "[o*3+p+g]%n", "[w+o]%n"};
        return "h" + (upTo(2) == 0 ? plain[upTo(plain.length)] : sum(2)) + "(" + test + ")";
    }

    private String text() {
        StringBuilder s = new StringBuilder(clause());
        for (int k = upTo(6); k > 0; k--) s.append(';').append(clause());
        if (upTo(3) == 0) s.append(";hs%n(1=1);t1+w%5(1=1)");
        if (upTo(20) == 0) {
            s.setLength(0);
            for (int k = 0; k < 15; k++) s.append(k > 0 ? ";" : "").append(upTo(2) == 0 ? "z(" : "h1(").append("s=1)");
        }
        if (upTo(6) == 0) s.setCharAt(upTo(s.length()), "()[]!&|<>=+-*/%;htzsrwipgon0123456789 x\u00e9".charAt(upTo(40)));
        if (upTo(12) == 0) s.insert(upTo(s.length()), "((((((!!!!!!!!!123456789[[[[[[".substring(upTo(29)));
        if (upTo(12) == 0) s.setLength(1 + upTo(s.length()));
        if (s.length() > 200) s.setLength(200);
        return s.toString();
    }

    private void law() {
        if (upTo(4) > 0) empty();
        String text = text();
        calls.add("// " + text);
        List<Integer> bytes = new ArrayList<>();
        for (int i = 0; i < text.length(); i++) bytes.add((int) text.charAt(i));
        feed(bytes);
        int n = upTo(20) == 0 ? near(202) : text.length();
        due("law(" + n + ")", x.law(n), m.law(n));
    }

    // ---- orders told

    private List<Integer> heap(int n) {
        List<Integer> told = new ArrayList<>(n == 0 || m.desk.go + n > 12 ? m.desk.heap : m.after(n, -1, -1, -1).heap);
        return told;
    }

    private void spoil(List<Integer> told) {
        if (told.isEmpty()) return;
        int k = upTo(4);
        if (k == 0) told.set(upTo(told.size()), near(32));
        if (k == 1) java.util.Collections.swap(told, upTo(told.size()), upTo(told.size()));
        if (k == 2) told.add(upTo(told.size()), told.remove(upTo(told.size())));
    }

    private void badly() {
        if (upTo(8) > 0) empty();
        int n = 1 + upTo(m.desk.letters.size() > 12 ? 2 : 4);
        if (upTo(30) == 0) n = near(7);
        List<Integer> told = heap(n < 1 || n > 12 ? 0 : n);
        if (n > 0 && n < 7 && m.desk.go + n <= 12 && !m.desk.letters.isEmpty()) {
            Model.Desk wrong = m.after(n, upTo(n), upTo(m.desk.letters.size()), upTo(m.holes));
            if (wrong != null && upTo(4) > 0) told = wrong.heap;
        }
        if (upTo(8) == 0) spoil(told);
        feed(told);
        int what = upTo(30) == 0 ? near(3) : upTo(4) - 1;
        due("badly(" + n + ", " + what + ")", x.badly(n, what), m.badly(n, what));
    }

    private void order() {
        if (upTo(8) > 0) empty();
        List<Integer> told = heap(0);
        for (int k = upTo(3); k > 0; k--) spoil(told);
        feed(told);
        int n = upTo(10) == 0 ? near(33) : told.size();
        due("order(" + n + ")", x.order(n), m.order(n));
    }

    private void check() {
        if (upTo(8) > 0) empty();
        List<Integer> told = heap(0);
        if (upTo(3) == 0) spoil(told);
        if (upTo(3) == 0) told.add(upTo(32));
        List<Integer> bytes = new ArrayList<>();
        for (int i : told) for (int shift = 24; shift >= 0; shift -= 8) bytes.add(i >> shift & 255);
        if (upTo(8) == 0 && !bytes.isEmpty()) bytes.set(upTo(bytes.size()), upTo(256));
        feed(bytes);
        int n = upTo(6) == 0 ? near(33) : told.size();
        due("check(" + n + ")", x.check(n), m.check(n));
    }

    // ---- a call

    private void change() {
        switch (upTo(14)) {
            case 0, 1, 2, 3 -> {
                int s = near(20);
                int w = near(100);
                int c = upTo(3) > 0 ? 0 : near(13);
                due("letter(" + s + ", " + w + ", " + c + ")", x.letter(s, w, c), m.letter(s, w, c));
            }
            case 4 -> {
                int s = near(20);
                int r = near(20);
                due("rank(" + s + ", " + r + ")", x.rank(s, r), m.rank(s, r));
            }
            case 5 -> {
                int h = near(10);
                int p = h > 0 && h < 10 ? near(1 << h) : near(3);
                due("rack(" + h + ", " + p + ")", x.rack(h, p), m.rack(h, p));
            }
            case 6, 7 -> law();
            case 8 -> order();
            case 9 -> due("shuffle()", x.shuffle(), m.shuffle());
            case 10 -> {
                int n = upTo(3) == 0 ? near(13) : 1;
                due("goes(" + n + ")", x.goes(n), m.goes(n));
            }
            case 11 -> {
                int seed = near(65536);
                due("seed(" + seed + ")", x.seed(seed), m.seed(seed));
            }
            case 12 -> {
                if (upTo(4) == 0) due("planDone()", x.planDone(), m.planDone());
                else if (upTo(2) == 0) due("keep()", x.keep(), m.keep());
            }
            default -> due("undo()", x.undo(), m.undo());
        }
    }

    private void ask() {
        int a = near(33);
        int b = near(6);
        switch (upTo(20)) {
            case 0, 1 -> due("letterIs(" + a + ", " + b + ")", x.letterIs(a, b), m.letterIs(a, b));
            case 2 -> due("at(" + a + ")", x.at(a), m.at(a));
            case 3, 4 -> {
                int n = near(14);
                int what = upTo(2) == 0 ? near(4) : near(44);
                due("tried(" + n + ", " + what + ")", x.tried(n, what), m.tried(n, what));
            }
            case 5 -> due("out()", x.out(), m.out());
            case 6 -> {
                int h = near(10);
                int s = near(10001);
                due("forAny(" + s + ", " + h + ")", x.forAny(s, h), m.forAny(s, h));
            }
            case 7 -> due("runs(" + b % 3 + ")", x.runs(b % 3), m.runs(b % 3));
            case 8 -> due("plan()", x.plan(), m.plan());
            case 9 -> due("planned(" + a + ", " + b + ")", x.planned(a, b), m.planned(a, b));
            case 10 -> tables();
            case 11 -> {
                due("yardQueues()", x.yardQueues(), m.yardQueues());
                due("yardPipes()", x.yardPipes(), m.yardPipes());
            }
            case 12 -> {
                int n = near(12);
                int what = upTo(3) == 0 ? -1 : near(11);
                due("yard(" + n + ", " + what + ")", x.yard(n, what), m.yard(n, what));
            }
            case 13 -> due("together(" + (b - 1) + ")", x.together(b - 1), m.together(b - 1));
            case 14, 15 -> {
                int n = near(5);
                int k = near(Math.max(1, Math.min(n, 12)));
                int i = near(Math.max(1, m.desk.letters.size()));
                int h = near(m.holes);
                int what = near(3);
                due("blunder(" + n + ", " + k + ", " + i + ", " + h + ", " + what + ")",
                    x.blunder(n, k, i, h, what), m.blunder(n, k, i, h, what));
            }
            case 16 -> badly();
            case 17 -> {
                int k = upTo(2) == 0 ? -1 : near(33);
                due("clerks(" + k + ")", x.clerks(k), m.clerks(k));
            }
            case 18 -> {
                int streets = upTo(4) == 0 ? near(1 << 20) : 1 << upTo(20) | 1 << upTo(20);
                due("wanted(" + streets + ")", x.wanted(streets), m.wanted(streets));
            }
            default -> check();
        }
    }

    private void tables() {
        int a = near(20);
        int b = upTo(4) == 0 ? near(20) : a + upTo(9);
        int d = upTo(2) == 0 ? 1 + upTo(4) : near(14);
        due("tables(" + a + ", " + b + ", " + d + ")", x.tables(a, b, d), m.tables(a, b, d));
        // the model tries all ways of parting: beyond so many streets that takes too long
        if (b - a < 11 || b > 19 || a < 0) {
            for (int k = 0; k < 10; k++) due("table(" + a + ", " + b + ", " + d + ", " + k + ")", x.table(a, b, d, k), m.table(a, b, d, k));
        }
    }

    private void counts() {
        for (int what = -1; what <= 40; what++) due("count(" + what + ")", x.count(what), m.count(what));
    }

    private void run(int sort) {
        x = new NineHoles();
        m = new Model();
        calls = new ArrayList<>();
        int streets = 1 + upTo(sort == 0 ? 4 : sort == 1 ? 9 : 20);
        for (int k = upTo(sort == 2 ? 33 : 9); k > 0; k--) {
            int s = upTo(streets);
            int w = upTo(100);
            int c = upTo(4) == 0 ? upTo(5) : 0;
            due("letter(" + s + ", " + w + ", " + c + ")", x.letter(s, w, c), m.letter(s, w, c));
        }
        int h = 1 + upTo(sort == 0 ? 3 : 9);
        int p = upTo(1 << h);
        due("rack(" + h + ", " + p + ")", x.rack(h, p), m.rack(h, p));
        if (upTo(8) > 0) law();
        for (int k = 0; k < 60 && wrong == 0; k++) {
            if (upTo(4) == 0) change(); else ask();
            // whatever was refused must have changed nothing
            if (k % 20 == 19) counts();
        }
        for (int k = -1; k < 33; k++) {
            due("at(" + k + ")", x.at(k), m.at(k));
            due("letterIs(" + k + ", 3)", x.letterIs(k, 3), m.letterIs(k, 3));
        }
    }

    public static void main(String[] args) {
        int runs = args.length > 0 ? Integer.parseInt(args[0]) : 3000;
        long start = args.length > 1 ? Long.parseLong(args[1]) : 42;
        ModelTest t = new ModelTest(start);
        for (int k = 0; k < runs && t.wrong == 0; k++) t.run(k % 3);
        System.out.println("ModelTest: " + t.held + " answers held against the model, " + t.wrong + " wrong");
        if (t.wrong > 0) System.exit(1);
    }
}
