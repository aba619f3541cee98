/** What the tests by hand share: offices, what is fed to them, and a count of the answers that were due. */
abstract class Office {
    private static int held = 0;
    private static int wrong = 0;
    private static int subjects = 0;
    private static int heldBefore = -1;
    private static String subject = "";

    /** All that is due behind this call is about these words of the document. */
    static void about(String words) {
        dueSomething();
        subject = words;
        subjects++;
        heldBefore = held;
    }

    private static void dueSomething() {
        if (held == heldBefore) {
            wrong++;
            System.out.println(subject + ": nothing is held against it");
        }
    }

    static void due(String what, int got, int want) {
        held++;
        if (got != want) {
            wrong++;
            System.out.println(subject + ": " + what + ": answered " + got + ", due is " + want);
        }
    }

    static void due(String what, boolean got, boolean want) {
        due(what, got ? 1 : 0, want ? 1 : 0);
    }

    static void end(String test) {
        dueSomething();
        System.out.println(test + ": " + subjects + " subjects, " + held + " answers, " + wrong + " wrong");
        if (wrong > 0) System.exit(1);
    }

    /** Feeds bytes in twenties, zeros behind them. */
    static int feed(NineHoles x, int... bytes) {
        int had = 0;
        for (int i = 0; i < bytes.length; i += 20) {
            int[] v = new int[5];
            for (int j = 0; j < 20; j++) v[j / 4] = v[j / 4] << 8 | (i + j < bytes.length ? bytes[i + j] & 255 : 0);
            had = x.feed(v[0], v[1], v[2], v[3], v[4]);
        }
        return had;
    }

    static int[] bytes(String text) {
        int[] bytes = new int[text.length()];
        for (int i = 0; i < bytes.length; i++) bytes[i] = text.charAt(i);
        return bytes;
    }

    /** Empties the tape first. */
    static int law(NineHoles x, String text) {
        x.check(0);
        feed(x, bytes(text));
        return x.law(text.length());
    }

    static boolean order(NineHoles x, int... letters) {
        x.check(0);
        feed(x, letters);
        return x.order(letters.length);
    }

    static int badly(NineHoles x, int n, int what, int... letters) {
        x.check(0);
        feed(x, letters);
        return x.badly(n, what);
    }

    static int check(NineHoles x, int n, int... numbers) {
        int[] bytes = new int[4 * numbers.length];
        for (int i = 0; i < bytes.length; i++) bytes[i] = numbers[i / 4] >>> 24 - i % 4 * 8;
        x.check(0);
        feed(x, bytes);
        return x.check(n);
    }

    static void dueHeap(String what, NineHoles x, int... letters) {
        due(what + ": how many", x.count(1), letters.length);
        for (int p = 0; p < letters.length; p++) due(what + ": at " + p, x.at(p), letters[p]);
    }

    /** Letters of these streets, weight 1, all there. */
    static NineHoles heap(int... streets) {
        NineHoles x = new NineHoles();
        for (int s : streets) x.letter(s, 1, 0);
        return x;
    }

    /** So many letters of streets 0, 1, .. 19, 0, 1, .. */
    static NineHoles heapOf(int many) {
        NineHoles x = new NineHoles();
        for (int i = 0; i < many; i++) x.letter(i % 20, 1, 0);
        return x;
    }

    /** Streets many - 1, .. 1, 0. */
    static NineHoles falling(int many) {
        NineHoles x = new NineHoles();
        for (int i = many - 1; i >= 0; i--) x.letter(i, 1, 0);
        return x;
    }
}
