import java.util.Arrays;

/** A sorting office: a heap of letters, a rack of holes and the law by which letters are thrown. */
public final class NineHoles {
    public static final int NONE = -1;

    private static final int NOT_SO = -2;
    private static final int NO_SUCH_PLACE = -3;
    private static final int AS_IT_SHOULD_BE = -3;
    private static final int MOST_LETTERS = 32;
    private static final int STREETS = 20;
    private static final int MOST_WEIGHT = 99;
    private static final int MOST_SECONDS = 99;
    private static final int MOST_HOLES = 9;
    private static final int LAST_GO = 12;
    private static final int MOST_BLAMED_GOES = 6;
    private static final int MOST_STREETS_TOGETHER = 8;
    private static final int MOST_IN_YARD = 10;
    private static final int LEFT_OUT = -1;
    private static final int NO_HOLE = 9;

    private final Tape tape = new Tape();
    private final LawReader reader = new LawReader(tape.bytes);
    private final int[] ranks = new int[STREETS];
    private final int[] keyAt = new int[MOST_LETTERS];
    private final Rack rack = new Rack();
    private final State now = new State();
    private final State kept = new State();
    private final State trial = new State();
    private final State other = new State();
    private final Sorter sorter = new Sorter(ranks, rack);
    private final Rows rows = new Rows();
    private final Planner planner = new Planner(rack, rows);
    private final Tables partings = new Tables(rack);
    private final Yard siding = new Yard(rack);
    private final Blame blame = new Blame(rack, sorter);
    private boolean anyKept = false;

    public NineHoles() {
        for (int street = 0; street < STREETS; street++) {
            ranks[street] = street;
        }
    }

    public int letter(int street, int weight, int comes) {
        boolean fits = isStreet(street) && weight >= 0 && weight <= MOST_WEIGHT && comes >= 0 && comes <= LAST_GO;
        boolean tooLate = comes > 0 && comes <= now.go;
        return fits && !tooLate ? now.add(street, weight, comes) : NONE;
    }

    public boolean rank(int street, int r) {
        if (!isStreet(street) || !isStreet(r)) {
            return false;
        }
        ranks[street] = r;
        return true;
    }

    public boolean rack(int holes, int pipes) {
        if (holes < 1 || holes > MOST_HOLES || pipes < 0 || pipes >= 1 << holes) {
            return false;
        }
        rack.holes = holes;
        rack.pipes = pipes;
        return true;
    }

    public int feed(int a, int b, int c, int d, int e) {
        if (!tape.hasRoom()) {
            return NONE;
        }
        tape.append(a);
        tape.append(b);
        tape.append(c);
        tape.append(d);
        tape.append(e);
        return tape.size;
    }

    public int law(int n) {
        if (n < 1 || n > Law.MOST_BYTES || n > tape.size) {
            return NONE;
        }
        int told = reader.read(n);
        tape.size = 0;
        if (told > 0) {
            sorter.law = reader.exchange(sorter.law);
        }
        return told;
    }

    public boolean order(int n) {
        if (n != now.size || n > tape.size) {
            return false;
        }
        boolean each = tape.tellsEachOf(now);
        if (each) {
            for (int place = 0; place < n; place++) {
                now.order[place] = tape.byteAt(place);
            }
        }
        tape.size = 0;
        return each;
    }

    public int letterIs(int i, int what) {
        if (!isLetter(i)) {
            return NONE;
        }
        int place = now.placeOf(i);
        switch (what) {
            case 0: return now.street[i];
            case 1: return now.weight[i];
            case 2: return place < 0 ? NOT_SO : place;
            case 3: return now.lastHole[i];
            case 4: return place < 0 ? NOT_SO : holeNow(place);
            default: return NONE;
        }
    }

    public int at(int place) {
        return place >= 0 && place < now.size ? now.order[place] : NONE;
    }

    public int goes(int n) {
        if (!canGo(n, LAST_GO)) {
            return NONE;
        }
        sorter.doGoes(now, n);
        return sorter.seconds;
    }

    public int tried(int n, int what) {
        boolean asksPlace = what >= 10 && what < 10 + MOST_LETTERS;
        boolean known = asksPlace || what >= 0 && what <= 3;
        if (!known || !canGo(n, LAST_GO)) {
            return NONE;
        }
        trial.copyFrom(now);
        sorter.doGoes(trial, n);
        switch (what) {
            case 0: return sorter.seconds;
            case 1: return sorter.load;
            case 2: return sorter.thrown;
            case 3: return firstOut(trial);
            default: return what - 10 < trial.size ? trial.order[what - 10] : NOT_SO;
        }
    }

    public int out() {
        return firstOut(now);
    }

    public int forAny(int streets, int h) {
        if (streets < 1 || streets > 10000 || h < 1 || h > MOST_HOLES) {
            return NONE;
        }
        if (h == 1) {
            return streets == 1 ? 0 : NOT_SO;
        }
        int goes = 0;
        for (int told = 1; told < streets; told *= h) {
            goes++;
        }
        return goes;
    }

    public int runs(int what) {
        if (what != 0 && what != 1) {
            return NONE;
        }
        readRanks();
        return rows.fewest(what == 0);
    }

    public int plan() {
        return findPlan();
    }

    public int planned(int i, int k) {
        if (!isLetter(i)) {
            return NONE;
        }
        int found = findPlan();
        if (now.placeOf(i) < 0 || k < 0 || k >= found) {
            return NOT_SO;
        }
        return planner.holeFor(ranks[now.street[i]], k);
    }

    public int planDone() {
        int found = findPlan();
        for (int k = 0; k < found; k++) {
            for (int place = 0; place < now.size; place++) {
                sorter.into[place] = planner.holeFor(ranks[now.streetAt(place)], k);
            }
            rack.giveBack(now, sorter.into);
        }
        return found;
    }

    public int tables(int a, int b, int d) {
        if (!areTables(a, b, d)) {
            return NONE;
        }
        int fewest = partings.fewest(now, a, b, d);
        return fewest >= Tables.NEVER ? NOT_SO : fewest;
    }

    public int table(int a, int b, int d, int k) {
        if (!areTables(a, b, d) || k < 0 || k >= MOST_HOLES) {
            return NONE;
        }
        int fewest = partings.fewest(now, a, b, d);
        if (fewest >= Tables.NEVER) {
            return NONE;
        }
        return fewest == 0 ? NOT_SO : partings.firstIn(a, b, k);
    }

    public int yardQueues() {
        putRanks();
        return siding.longestRow(keyAt, now.size, -1);
    }

    public int yardPipes() {
        putRanks();
        return siding.longestRow(keyAt, now.size, 1);
    }

    public int yard(int n, int what) {
        if (n < 1 || n > MOST_IN_YARD || n > now.size) {
            return NONE;
        }
        if (what != NONE && (what < 0 || what >= n)) {
            return NO_SUCH_PLACE;
        }
        putRanks();
        boolean can = siding.settle(keyAt, n);
        if (what == NONE) {
            return can ? 1 : 0;
        }
        return can ? siding.row[what] : NOT_SO;
    }

    public int together(int what) {
        for (int place = 0; place < now.size; place++) {
            keyAt[place] = now.streetAt(place);
        }
        rows.read(keyAt, now.size);
        if (rows.many < 1 || rows.many > MOST_STREETS_TOGETHER) {
            return NOT_SO;
        }
        if (what != NONE && (what < 0 || what >= rows.many)) {
            return NO_SUCH_PLACE;
        }
        int fewest = rows.freest();
        return what == NONE ? fewest : rows.keys[rows.row[what]];
    }

    public int blunder(int n, int k, int i, int hole, int what) {
        boolean fits = isLetter(i) && hole >= 0 && hole < rack.holes && what >= 0 && what <= 2;
        if (!fits || !canGo(n, LAST_GO) || k < 0 || k >= n) {
            return NONE;
        }
        trial.copyFrom(now);
        sorter.doGoes(trial, k);
        if (!sorter.blunderGo(trial, i, hole)) {
            return NOT_SO;
        }
        sorter.doGoes(trial, n - k - 1);
        other.copyFrom(now);
        sorter.doGoes(other, n);
        int place = trial.placeOf(i);
        switch (what) {
            case 0: return place;
            case 1: return Math.abs(place - other.placeOf(i));
            default: return trial.othersElsewhere(other, i);
        }
    }

    public int badly(int n, int what) {
        if (!canGo(n, MOST_BLAMED_GOES) || what < NONE || what > 2) {
            return NONE;
        }
        trial.copyFrom(now);
        sorter.doGoes(trial, n);
        if (trial.size > tape.size) {
            return NONE;
        }
        boolean right = tape.tells(trial);
        boolean each = tape.tellsEachOf(trial);
        blame.found = 0;
        if (each && !right) {
            blame.search(now, n, tape);
        }
        tape.size = 0;
        return right ? AS_IT_SHOULD_BE : blame.answer(what);
    }

    public int clerks(int k) {
        if (!canGo(1, LAST_GO)) {
            return NONE;
        }
        trial.copyFrom(now);
        trial.comeIn();
        if (k < NONE || k > trial.size) {
            return NOT_SO;
        }
        sorter.askAll(trial);
        int all = secondsOfFirst(trial.size);
        if (k != NONE) {
            int first = secondsOfFirst(k);
            return Math.max(first, all - first);
        }
        return bestShare(all);
    }

    public int wanted(int streets) {
        if (streets < 1 || streets >= 1 << STREETS) {
            return NONE;
        }
        int all = 0;
        int lying = 0;
        int soonest = NOT_SO;
        for (int place = 0; place < now.size; place++) {
            int seconds = sorter.secondsFor(now, place);
            boolean isWanted = (streets >> now.streetAt(place) & 1) != 0;
            all += seconds;
            lying += isWanted ? seconds : 1;
            if (isWanted) {
                soonest = Math.min(all, lying);
            }
        }
        return soonest;
    }

    public boolean seed(int x) {
        if (x < 0 || x > 65535) {
            return false;
        }
        now.x = x;
        return true;
    }

    public int shuffle() {
        for (int k = now.size - 1; k >= 1; k--) {
            now.x = (25173 * now.x + 13849) % 65536;
            int place = now.x % (k + 1);
            int letter = now.order[k];
            now.order[k] = now.order[place];
            now.order[place] = letter;
        }
        return firstOut(now);
    }

    public int keep() {
        kept.copyFrom(now);
        anyKept = true;
        return now.size;
    }

    public boolean undo() {
        if (anyKept) {
            now.copyFrom(kept);
        }
        return anyKept;
    }

    public int check(int n) {
        if (n < 0 || n > MOST_LETTERS || 4 * n > tape.size) {
            return NOT_SO;
        }
        int wrong = NONE;
        for (int place = n - 1; place >= 0; place--) {
            if (place >= now.size || tape.numberAt(place) != now.order[place]) {
                wrong = place;
            }
        }
        tape.size = 0;
        return wrong;
    }

    public int count(int what) {
        if (what >= 20 && what < 20 + STREETS) {
            return ranks[what - 20];
        }
        switch (what) {
            case 0: return now.letters;
            case 1: return now.size;
            case 2: return now.go;
            case 3: return sorter.law.clauses;
            case 4: return tape.size;
            case 5: return now.x;
            case 6: return rack.holes;
            case 7: return rack.pipes;
            case 8: return now.streetBits();
            case 9: return now.weights();
            default: return NONE;
        }
    }

    private static boolean isStreet(int street) {
        return street >= 0 && street < STREETS;
    }

    private static boolean areTables(int a, int b, int d) {
        return isStreet(a) && isStreet(b) && a <= b && d >= 1 && d <= LAST_GO;
    }

    private boolean isLetter(int i) {
        return i >= 0 && i < now.letters;
    }

    private boolean canGo(int n, int most) {
        return n >= 1 && n <= most && now.go + n <= LAST_GO;
    }

    private int holeNow(int place) {
        int hole = sorter.holeFor(now, place);
        return hole == LEFT_OUT ? NOT_SO : hole;
    }

    private int firstOut(State s) {
        for (int place = 1; place < s.size; place++) {
            if (ranks[s.streetAt(place)] < ranks[s.streetAt(place - 1)]) {
                return place;
            }
        }
        return NONE;
    }

    private void putRanks() {
        for (int place = 0; place < now.size; place++) {
            keyAt[place] = ranks[now.streetAt(place)];
        }
    }

    private void readRanks() {
        putRanks();
        rows.read(keyAt, now.size);
    }

    private int findPlan() {
        readRanks();
        return planner.find();
    }

    /** Of the next go, as it is tried: those that are left out need no seconds. */
    private int secondsOfFirst(int k) {
        int seconds = 0;
        for (int place = 0; place < k; place++) {
            if (sorter.into[place] != LEFT_OUT) {
                seconds += sorter.secondsFor(trial, place);
            }
        }
        return seconds;
    }

    private int bestShare(int all) {
        int best = 0;
        int soonest = all;
        int first = 0;
        for (int place = 0; place < trial.size; place++) {
            if (sorter.into[place] != LEFT_OUT) {
                first += sorter.secondsFor(trial, place);
            }
            int both = Math.max(first, all - first);
            if (both < soonest) {
                soonest = both;
                best = place + 1;
            }
        }
        return best;
    }

    /** The bytes that were fed and not yet used. */
    private static final class Tape {
        static final int MOST = 220;
        static final int FED_AT_ONCE = 20;

        final int[] bytes = new int[MOST];
        int size = 0;

        boolean hasRoom() {
            return size + FED_AT_ONCE <= MOST;
        }

        void append(int four) {
            for (int shift = 24; shift >= 0 && size < MOST; shift -= 8) {
                bytes[size] = four >> shift & 255;
                size++;
            }
        }

        int byteAt(int i) {
            return i >= 0 && i < size ? bytes[i] : -1;
        }

        int numberAt(int i) {
            int number = 0;
            for (int j = 4 * i; j < 4 * i + 4; j++) {
                number = number << 8 | byteAt(j) & 255;
            }
            return number;
        }

        boolean tells(State s) {
            for (int place = 0; place < s.size; place++) {
                if (byteAt(place) != s.order[place]) {
                    return false;
                }
            }
            return true;
        }

        /** As many bytes as the heap has letters, none of them twice, are each letter once if each is in the heap. */
        boolean tellsEachOf(State s) {
            int seen = 0;
            for (int place = 0; place < s.size; place++) {
                int letter = byteAt(place);
                if (s.placeOf(letter) < 0 || (seen >> letter & 1) != 0) {
                    return false;
                }
                seen |= 1 << letter;
            }
            return true;
        }
    }

    /** All that is kept and undone together. */
    private static final class State {
        final int[] street = new int[MOST_LETTERS];
        final int[] weight = new int[MOST_LETTERS];
        final int[] comes = new int[MOST_LETTERS];
        final int[] lastHole = new int[MOST_LETTERS];
        final int[] order = new int[MOST_LETTERS];
        int letters = 0;
        int size = 0;
        int go = 0;
        int x = 1;

        void copyFrom(State from) {
            System.arraycopy(from.street, 0, street, 0, MOST_LETTERS);
            System.arraycopy(from.weight, 0, weight, 0, MOST_LETTERS);
            System.arraycopy(from.comes, 0, comes, 0, MOST_LETTERS);
            letters = from.letters;
            x = from.x;
            copyGoesFrom(from);
        }

        /** What goes alone can change: enough for a trial that is begun again from the same letters. */
        void copyGoesFrom(State from) {
            System.arraycopy(from.lastHole, 0, lastHole, 0, MOST_LETTERS);
            System.arraycopy(from.order, 0, order, 0, MOST_LETTERS);
            size = from.size;
            go = from.go;
        }

        int add(int itsStreet, int itsWeight, int itComes) {
            int number = letters;
            if (number >= MOST_LETTERS) {
                return NONE;
            }
            street[number] = itsStreet;
            weight[number] = itsWeight;
            comes[number] = itComes;
            lastHole[number] = NO_HOLE;
            letters++;
            if (itComes == 0) {
                putBehind(number);
            }
            return number;
        }

        void putBehind(int number) {
            if (size < MOST_LETTERS) {
                order[size] = number;
                size++;
            }
        }

        /** Once all are in the heap there is nobody to look for: trials come here by the hundred. */
        void comeIn() {
            for (int i = 0; i < letters && size < letters; i++) {
                if (comes[i] == go + 1) {
                    putBehind(i);
                }
            }
        }

        int placeOf(int number) {
            for (int place = 0; place < size; place++) {
                if (order[place] == number) {
                    return place;
                }
            }
            return NONE;
        }

        int streetAt(int place) {
            return street[order[place]];
        }

        int othersElsewhere(State than, int number) {
            int many = 0;
            for (int place = 0; place < size; place++) {
                if (order[place] != than.order[place] && order[place] != number) {
                    many++;
                }
            }
            return many;
        }

        int streetBits() {
            int bits = 0;
            for (int place = 0; place < size; place++) {
                bits |= 1 << streetAt(place);
            }
            return bits;
        }

        int weights() {
            int sum = 0;
            for (int place = 0; place < size; place++) {
                sum += weight[order[place]];
            }
            return sum;
        }
    }

    /** The holes, and what they give back. */
    private static final class Rack {
        int holes = MOST_HOLES;
        int pipes = 0;
        private final int[] next = new int[MOST_HOLES + 1];
        private final int[] taken = new int[MOST_LETTERS];

        boolean isPipe(int hole) {
            return hole >= 0 && (pipes >> hole & 1) != 0;
        }

        /** Those left out stand ahead of hole 0, as if in a queue numbered -1: so one row of counters serves both. */
        void giveBack(State s, int[] into) {
            Arrays.fill(next, 0);
            for (int place = 0; place < s.size; place++) {
                next[into[place] + 1]++;
            }
            int start = 0;
            for (int hole = LEFT_OUT; hole < holes; hole++) {
                int many = next[hole + 1];
                next[hole + 1] = isPipe(hole) ? start + many - 1 : start;
                start += many;
            }
            for (int place = 0; place < s.size; place++) {
                int hole = into[place];
                taken[next[hole + 1]] = s.order[place];
                next[hole + 1] += isPipe(hole) ? -1 : 1;
            }
            System.arraycopy(taken, 0, s.order, 0, s.size);
        }
    }

    /** A law as steps for a small stack machine, so that asking it needs no recursion. */
    private static final class Law {
        static final int MOST_BYTES = 200;
        static final int MOST_CLAUSES = 14;
        static final int NUMBER = '#';
        static final int SIGN = 'x';
        static final String SIGNS = "srwipgon";

        private final int[] kind = new int[MOST_CLAUSES];
        private final int[] from = new int[MOST_CLAUSES];
        private final int[] middle = new int[MOST_CLAUSES];
        private final int[] to = new int[MOST_CLAUSES];
        private final int[] codes = new int[MOST_BYTES];
        private final int[] values = new int[MOST_BYTES];
        private final int[] stack = new int[MOST_BYTES];
        int clauses = 0;
        int steps = 0;
        int asked = 0;

        void clear() {
            clauses = 0;
            steps = 0;
            asked = 0;
        }

        /** Each step stands for another byte of the text: there is always room. */
        int emit(int code, int value) {
            int step = steps;
            if (step < MOST_BYTES) {
                codes[step] = code;
                values[step] = value;
                steps++;
            }
            if (code == SIGN) {
                asked |= 1 << value;
            }
            return step;
        }

        /** An & or | leaps over the piece behind it, to the next & or |, which leaps on. */
        void bridge(int step) {
            if (step >= 0 && step < steps) {
                values[step] = steps - step - 1;
            }
        }

        void addClause(int itsKind, int start, int half) {
            if (clauses < MOST_CLAUSES) {
                kind[clauses] = itsKind;
                from[clauses] = start;
                middle[clauses] = half;
                to[clauses] = steps;
                clauses++;
            }
        }

        boolean asks(char sign) {
            return (asked >> SIGNS.indexOf(sign) & 1) != 0;
        }

        boolean leavesOut(int[] signs) {
            for (int c = 0; c < clauses; c++) {
                if (kind[c] == 'z' && run(middle[c], to[c], signs) != 0) {
                    return true;
                }
            }
            return false;
        }

        int amount(int wantedKind, int[] signs, int most) {
            for (int c = 0; c < clauses; c++) {
                if (kind[c] == wantedKind && run(middle[c], to[c], signs) != 0) {
                    return Math.max(0, Math.min(most, run(from[c], middle[c], signs)));
                }
            }
            return 0;
        }

        /** What is refused answers 0: an amount is 0 then, and a condition does not hold, whatever stands around. */
        private int run(int start, int end, int[] signs) {
            int held = 0;
            for (int step = start; step < end; step++) {
                int code = codes[step];
                if (code == NUMBER || code == SIGN) {
                    stack[held] = code == SIGN ? signs[values[step]] : values[step];
                    held++;
                } else if (code == '!' && held > 0) {
                    stack[held - 1] = 1 - stack[held - 1];
                } else if (isLeap(code) && held > 0) {
                    if (stack[held - 1] == (code == '|' ? 1 : 0)) {
                        step += values[step];
                    } else {
                        held--;
                    }
                } else if (held > 1) {
                    held--;
                    int right = stack[held];
                    if (right == 0 && (code == '/' || code == '%')) {
                        return 0;
                    }
                    stack[held - 1] = reckon(code, stack[held - 1], right);
                }
            }
            return held > 0 ? stack[0] : 0;
        }

        private static boolean isLeap(int code) {
            return code == '&' || code == '|';
        }

        private static int reckon(int code, int left, int right) {
            switch (code) {
                case '+': return left + right;
                case '-': return left - right;
                case '*': return left * right;
                case '/': return right == 0 ? 0 : left / right;
                case '%': return right == 0 ? 0 : left % right;
                case '<': return left < right ? 1 : 0;
                case '>': return left > right ? 1 : 0;
                default: return left == right ? 1 : 0;
            }
        }
    }

    /** Reads a law's text from the left; where it stops, 'here' is the place of the first fault. */
    private static final class LawReader {
        private static final int MISPLACED = 1;
        private static final int LONG_NUMBER = 2;
        private static final int MANY_CLAUSES = 4;
        private static final int DEEP = 5;
        private static final int MOST_DIGITS = 5;
        private static final int MOST_OPEN = 6;
        private static final int END = -1;

        private final int[] text;
        private Law made = new Law();
        private int length = 0;
        private int here = 0;
        private int fault = 0;

        LawReader(int[] text) {
            this.text = text;
        }

        /** The law just read, for one that is no longer in force: its rows serve the next reading. */
        Law exchange(Law old) {
            Law read = made;
            made = old;
            return read;
        }

        /** How many clauses, or the fault. */
        int read(int n) {
            length = Math.min(n, text.length);
            here = 0;
            fault = 0;
            made.clear();
            boolean good = clause();
            for (int more = 1; more <= Law.MOST_CLAUSES && good && here < length; more++) {
                good = take(';') && clause();
            }
            return good ? made.clauses : fault;
        }

        private boolean clause() {
            int kind = next();
            if (kind != 'h' && kind != 't' && kind != 'z') {
                return fail(MISPLACED);
            }
            if (made.clauses >= Law.MOST_CLAUSES) {
                return fail(MANY_CLAUSES);
            }
            here++;
            int start = made.steps;
            if (kind != 'z' && !sum(0)) {
                return false;
            }
            int half = made.steps;
            if (!take('(') || !condition(1) || !take(')')) {
                return false;
            }
            made.addClause(kind, start, half);
            return true;
        }

        private boolean condition(int open) {
            boolean good = part(open);
            for (int i = here; i < length && good && next() == '|'; i++) {
                int leap = operator('|');
                good = part(open);
                made.bridge(leap);
            }
            return good;
        }

        private boolean part(int open) {
            boolean good = piece(open);
            for (int i = here; i < length && good && next() == '&'; i++) {
                int leap = operator('&');
                good = piece(open);
                made.bridge(leap);
            }
            return good;
        }

        private boolean piece(int open) {
            int sign = next();
            if (sign != '!' && sign != '(') {
                return comparison(open);
            }
            if (open >= MOST_OPEN) {
                return fail(DEEP);
            }
            here++;
            if (sign == '(') {
                return condition(open + 1) && take(')');
            }
            if (!piece(open + 1)) {
                return false;
            }
            made.emit('!', 0);
            return true;
        }

        private boolean comparison(int open) {
            if (!sum(open)) {
                return false;
            }
            int sign = next();
            if (sign != '<' && sign != '>' && sign != '=') {
                return fail(MISPLACED);
            }
            here++;
            if (!sum(open)) {
                return false;
            }
            made.emit(sign, 0);
            return true;
        }

        private boolean sum(int open) {
            boolean good = term(open);
            for (int i = here; i < length && good && (next() == '+' || next() == '-'); i++) {
                int sign = next();
                here++;
                good = term(open);
                made.emit(sign, 0);
            }
            return good;
        }

        private boolean term(int open) {
            boolean good = factor(open);
            for (int i = here; i < length && good && (next() == '*' || next() == '/' || next() == '%'); i++) {
                int sign = next();
                here++;
                good = factor(open);
                made.emit(sign, 0);
            }
            return good;
        }

        private boolean factor(int open) {
            int sign = next();
            if (isDigit(sign)) {
                return number();
            }
            if (sign == '[') {
                if (open >= MOST_OPEN) {
                    return fail(DEEP);
                }
                here++;
                return sum(open + 1) && take(']');
            }
            int which = sign == END ? -1 : Law.SIGNS.indexOf((char) sign);
            if (which < 0) {
                return fail(MISPLACED);
            }
            here++;
            made.emit(Law.SIGN, which);
            return true;
        }

        private boolean number() {
            int value = 0;
            for (int digits = 0; digits < MOST_DIGITS && isDigit(next()); digits++) {
                value = 10 * value + next() - '0';
                here++;
            }
            if (isDigit(next())) {
                return fail(LONG_NUMBER);
            }
            made.emit(Law.NUMBER, value);
            return true;
        }

        private int operator(int sign) {
            here++;
            return made.emit(sign, 0);
        }

        private int next() {
            return here < length ? text[here] : END;
        }

        private boolean take(int sign) {
            if (next() != sign) {
                return fail(MISPLACED);
            }
            here++;
            return true;
        }

        private boolean fail(int number) {
            fault = -1000 * number - here;
            return false;
        }

        private static boolean isDigit(int sign) {
            return sign >= '0' && sign <= '9';
        }
    }

    /** Does goes by the law. */
    private static final class Sorter {
        private final int[] ranks;
        private final Rack rack;
        private final int[] signs = new int[Law.SIGNS.length()];
        final int[] into = new int[MOST_LETTERS];
        Law law = new Law();
        int seconds = 0;
        int load = 0;
        int thrown = 0;

        Sorter(int[] ranks, Rack rack) {
            this.ranks = ranks;
            this.rack = rack;
        }

        int holeFor(State s, int place) {
            putSigns(s, place);
            return law.leavesOut(signs) ? LEFT_OUT : law.amount('h', signs, rack.holes - 1);
        }

        int secondsFor(State s, int place) {
            putSigns(s, place);
            return law.amount('t', signs, MOST_SECONDS);
        }

        private void putSigns(State s, int place) {
            int letter = s.order[place];
            signs[0] = s.street[letter];
            signs[1] = ranks[s.street[letter]];
            signs[2] = s.weight[letter];
            signs[3] = letter;
            signs[4] = place;
            signs[5] = s.go;
            signs[6] = s.lastHole[letter];
            signs[7] = rack.holes;
        }

        void doGoes(State s, int n) {
            seconds = 0;
            load = 0;
            thrown = 0;
            for (int k = 0; k < n; k++) {
                s.comeIn();
                askAll(s);
                tally(s);
                throwAll(s);
            }
        }

        /** False, and nothing thrown, where it would be no blunder. */
        boolean blunderGo(State s, int letter, int hole) {
            s.comeIn();
            askAll(s);
            int place = s.placeOf(letter);
            if (place < 0 || into[place] == LEFT_OUT || into[place] == hole) {
                return false;
            }
            into[place] = hole;
            throwAll(s);
            return true;
        }

        void askAll(State s) {
            for (int place = 0; place < s.size; place++) {
                into[place] = holeFor(s, place);
            }
        }

        private void tally(State s) {
            for (int place = 0; place < s.size; place++) {
                if (into[place] != LEFT_OUT) {
                    seconds += secondsFor(s, place);
                    load += s.weight[s.order[place]];
                    thrown++;
                }
            }
        }

        void throwAll(State s) {
            for (int place = 0; place < s.size; place++) {
                if (into[place] != LEFT_OUT) {
                    s.lastHole[s.order[place]] = into[place];
                }
            }
            rack.giveBack(s, into);
            s.go++;
        }
    }

    /** Where the letters of each key (rank or street) lie, and the rows that keys make. */
    private static final class Rows {
        final int[] keys = new int[STREETS];
        final int[] row = new int[MOST_STREETS_TOGETHER];
        int many = 0;
        private final int[] first = new int[STREETS];
        private final int[] last = new int[STREETS];
        private final int[] breaks = new int[MOST_STREETS_TOGETHER << MOST_STREETS_TOGETHER];

        void read(int[] keyAt, int size) {
            Arrays.fill(last, NONE);
            for (int place = size - 1; place >= 0; place--) {
                int key = keyAt[place];
                first[key] = place;
                last[key] = Math.max(last[key], place);
            }
            many = 0;
            for (int key = 0; key < STREETS; key++) {
                if (last[key] >= 0) {
                    keys[many] = key;
                    many++;
                }
            }
        }

        /** Whether all letters of keys[i] lie ahead of all of keys[j], or behind all of them. */
        boolean goesOn(int i, int j, boolean forward) {
            return forward ? last[keys[i]] < first[keys[j]] : first[keys[i]] > last[keys[j]];
        }

        int fewest(boolean forward) {
            int found = many > 0 ? 1 : 0;
            for (int i = 1; i < many; i++) {
                if (!goesOn(i - 1, i, forward)) {
                    found++;
                }
            }
            return found;
        }

        /** Fewest forward runs if keys may stand in any order; puts the least such order into row. */
        int freest() {
            int all = (1 << many) - 1;
            for (int used = all; used >= 1; used--) {
                for (int i = 0; i < many; i++) {
                    if ((used >> i & 1) != 0) {
                        breaks[used * MOST_STREETS_TOGETHER + i] = used == all ? 0 : fewestFrom(used, i);
                    }
                }
            }
            int fewest = MOST_STREETS_TOGETHER;
            for (int i = many - 1; i >= 0; i--) {
                int with = 1 + breaks[(1 << i) * MOST_STREETS_TOGETHER + i];
                if (with <= fewest) {
                    fewest = with;
                    row[0] = i;
                }
            }
            putRow();
            return fewest;
        }

        private int breakWith(int used, int i, int next) {
            return (goesOn(i, next, true) ? 0 : 1) + breaks[(used | 1 << next) * MOST_STREETS_TOGETHER + next];
        }

        private int fewestFrom(int used, int i) {
            int fewest = MOST_STREETS_TOGETHER;
            for (int next = 0; next < many; next++) {
                if ((used >> next & 1) == 0) {
                    fewest = Math.min(fewest, breakWith(used, i, next));
                }
            }
            return fewest;
        }

        private void putRow() {
            int used = 1 << row[0];
            for (int place = 1; place < many; place++) {
                int due = breaks[used * MOST_STREETS_TOGETHER + row[place - 1]];
                for (int next = many - 1; next >= 0; next--) {
                    if ((used >> next & 1) == 0 && breakWith(used, row[place - 1], next) == due) {
                        row[place] = next;
                    }
                }
                used |= 1 << row[place];
            }
        }
    }

    /** Puts ranks on ways; ways are numbered in the order in which they give back. */
    private static final class Planner {
        private static final int MOST_GOES = 5;

        private final Rack rack;
        private final Rows rows;
        private final int[] wayOf = new int[STREETS];
        private int goes = 0;

        Planner(Rack rack, Rows rows) {
            this.rack = rack;
            this.rows = rows;
        }

        /** The rows must have been read by ranks. */
        int find() {
            int ways = 1;
            for (goes = 0; goes <= MOST_GOES; goes++) {
                if (putRanks(ways)) {
                    return goes;
                }
                ways *= rack.holes;
            }
            return NOT_SO;
        }

        private boolean putRanks(int ways) {
            int put = 0;
            for (int way = 0; way < ways && put < rows.many; way++) {
                boolean forward = (pipesOn(way) & 1) == 0;
                wayOf[rows.keys[put]] = way;
                put++;
                for (; put < rows.many && rows.goesOn(put - 1, put, forward); put++) {
                    wayOf[rows.keys[put]] = way;
                }
            }
            return put >= rows.many;
        }

        private int pipesOn(int way) {
            int pipes = 0;
            for (int k = 0; k < goes; k++) {
                pipes += rack.isPipe(holeOn(way, k)) ? 1 : 0;
            }
            return pipes;
        }

        int holeFor(int rank, int k) {
            return holeOn(wayOf[rank], k);
        }

        /** The last go's holes part the ways into like shares; a pipe turns the ways of its share round. */
        private int holeOn(int way, int k) {
            int share = 1;
            for (int go = 1; go < goes; go++) {
                share *= Math.max(1, rack.holes);
            }
            int hole = 0;
            int left = way;
            for (int go = goes - 1; go >= k && share >= 1; go--) {
                hole = left / share;
                left = left % share;
                if (rack.isPipe(hole)) {
                    left = share - 1 - left;
                }
                share /= Math.max(1, rack.holes);
            }
            return hole;
        }
    }

    /** Fewest throws, hole by hole, for each span of streets. */
    private static final class Tables {
        static final int NEVER = 1000000;

        private final Rack rack;
        private final int[] lettersBelow = new int[STREETS + 1];
        private final int[] streetsBelow = new int[STREETS + 1];
        private final int[][] split = new int[MOST_HOLES + 1][STREETS + 1];
        private int[][] known = new int[STREETS][STREETS];
        private int[][] deeper = new int[STREETS][STREETS];

        Tables(Rack rack) {
            this.rack = rack;
        }

        /** Leaves behind, in known and split, what firstIn asks. */
        int fewest(State s, int a, int b, int d) {
            countLetters(s);
            if (isAlone(a, b)) {
                return 0;
            }
            for (int x = a; x <= b; x++) {
                for (int y = x; y <= b; y++) {
                    known[x][y] = isAlone(x, y) ? 0 : NEVER;
                }
            }
            boolean better = true;
            for (int go = 1; go < d && better; go++) {
                better = goDeeper(a, b);
            }
            splitUpTo(a, b);
            return throwsWith(a, b);
        }

        private void countLetters(State s) {
            Arrays.fill(lettersBelow, 0);
            for (int place = 0; place < s.size; place++) {
                lettersBelow[s.streetAt(place) + 1]++;
            }
            for (int street = 0; street < STREETS; street++) {
                streetsBelow[street + 1] = streetsBelow[street] + Math.min(1, lettersBelow[street + 1]);
                lettersBelow[street + 1] += lettersBelow[street];
            }
        }

        private boolean isAlone(int x, int y) {
            return streetsBelow[y + 1] - streetsBelow[x] <= 1;
        }

        private int letters(int x, int y) {
            return lettersBelow[y + 1] - lettersBelow[x];
        }

        /** One go more for each span; false if it helped none, and so none more will. */
        private boolean goDeeper(int a, int b) {
            boolean better = false;
            for (int y = a; y <= b; y++) {
                splitUpTo(a, y);
                for (int x = a; x <= y; x++) {
                    deeper[x][y] = isAlone(x, y) ? 0 : throwsWith(x, y);
                    better |= deeper[x][y] < known[x][y];
                }
            }
            int[][] before = known;
            known = deeper;
            deeper = before;
            return better;
        }

        /** split[m][x]: fewest throws behind this go if streets x to y lie in just m holes. */
        private void splitUpTo(int a, int y) {
            for (int x = a; x <= y; x++) {
                split[1][x] = known[x][y];
            }
            for (int m = 2; m <= rack.holes; m++) {
                for (int x = a; x <= y; x++) {
                    int fewest = NEVER;
                    for (int z = x; z < y && known[x][z] < NEVER; z++) {
                        fewest = Math.min(fewest, known[x][z] + split[m - 1][z + 1]);
                    }
                    split[m][x] = fewest;
                }
            }
        }

        private int fewestHoles(int x) {
            int best = 1;
            for (int m = 2; m <= rack.holes; m++) {
                if (split[m][x] < split[best][x]) {
                    best = m;
                }
            }
            return best;
        }

        private int throwsWith(int x, int y) {
            return Math.min(NEVER, letters(x, y) + split[fewestHoles(x)][x]);
        }

        /** Behind fewest(), where there are throws: the first street in hole k. */
        int firstIn(int a, int b, int k) {
            int holes = fewestHoles(a);
            if (k >= holes) {
                return NOT_SO;
            }
            int x = a;
            for (int hole = 0; hole < k; hole++) {
                int left = holes - hole;
                int z = x;
                while (z < b - 1 && known[x][z] + split[left - 1][z + 1] > split[left][x]) {
                    z++;
                }
                x = z + 1;
            }
            return x;
        }
    }

    /** Holes that are emptied at will, once all letters are in. */
    private static final class Yard {
        private final Rack rack;
        private final int[] last = new int[MOST_HOLES];
        private final int[] longest = new int[MOST_LETTERS];
        final int[] row = new int[MOST_IN_YARD];

        Yard(Rack rack) {
            this.rack = rack;
        }

        /** The most letters one behind the other whose ranks all rise (direction 1) or all fall (-1). */
        int longestRow(int[] rankAt, int size, int direction) {
            int most = 0;
            for (int place = 0; place < size; place++) {
                longest[place] = 1;
                for (int ahead = 0; ahead < place; ahead++) {
                    if (direction * (rankAt[place] - rankAt[ahead]) > 0) {
                        longest[place] = Math.max(longest[place], longest[ahead] + 1);
                    }
                }
                most = Math.max(most, longest[place]);
            }
            return most;
        }

        /** Puts the least row of holes into row, if there is one. */
        boolean settle(int[] rankAt, int n) {
            for (int hole = 0; hole < rack.holes; hole++) {
                last[hole] = rack.isPipe(hole) ? STREETS : -1;
            }
            boolean can = true;
            for (int place = 0; place < n && can; place++) {
                can = false;
                for (int hole = 0; hole < rack.holes && !can; hole++) {
                    can = canPutInto(hole, rankAt, place, n);
                    row[place] = hole;
                }
                last[row[place]] = rankAt[place];
            }
            return can;
        }

        private boolean fits(int hole, int rank) {
            return rack.isPipe(hole) ? last[hole] >= rank : last[hole] <= rank;
        }

        private boolean canPutInto(int hole, int[] rankAt, int place, int n) {
            if (hole < 0 || !fits(hole, rankAt[place])) {
                return false;
            }
            int before = last[hole];
            last[hole] = rankAt[place];
            boolean can = canPut(rankAt, place + 1, n);
            last[hole] = before;
            return can;
        }

        /** Among queues (or pipes) the one whose last rank is nearest leaves most room in the others. */
        private boolean canPut(int[] rankAt, int place, int n) {
            if (place >= n) {
                return true;
            }
            return canPutInto(nearest(rankAt[place], false), rankAt, place, n)
                || canPutInto(nearest(rankAt[place], true), rankAt, place, n);
        }

        private int nearest(int rank, boolean pipe) {
            int found = NONE;
            for (int hole = 0; hole < rack.holes; hole++) {
                if (rack.isPipe(hole) == pipe && fits(hole, rank)) {
                    if (found < 0 || Math.abs(last[hole] - rank) < Math.abs(last[found] - rank)) {
                        found = hole;
                    }
                }
            }
            return found;
        }
    }

    /** Looks for the single wrong throws behind which an order is just as told. */
    private static final class Blame {
        private static final int BITS = 4;
        private static final int ANSWER = 15;

        private final Rack rack;
        private final Sorter sorter;
        private final State rightly = new State();
        private final State wrongly = new State();
        private final int[] lawful = new int[MOST_LETTERS];
        private final long[] answers = new long[MOST_BLAMED_GOES * MOST_LETTERS * MOST_LETTERS];
        private final int[] firstFound = new int[3];
        private boolean byPlace = false;
        private boolean byHole = false;
        int found = 0;

        Blame(Rack rack, Sorter sorter) {
            this.rack = rack;
            this.sorter = sorter;
        }

        /** How many there are is a number even where there is none; only of the first one nothing can be told then. */
        int answer(int what) {
            if (what == NONE) {
                return found;
            }
            return found > 0 && what >= 0 && what < firstFound.length ? firstFound[what] : NOT_SO;
        }

        void search(State now, int n, Tape told) {
            Arrays.fill(answers, 0);
            found = 0;
            byPlace = sorter.law.asks('p');
            byHole = sorter.law.asks('o');
            rightly.copyFrom(now);
            wrongly.copyFrom(now);
            for (int k = 0; k < n; k++) {
                rightly.comeIn();
                askKnown(rightly, k);
                System.arraycopy(sorter.into, 0, lawful, 0, MOST_LETTERS);
                for (int letter = 0; letter < rightly.letters; letter++) {
                    int place = rightly.placeOf(letter);
                    if (place >= 0 && lawful[place] != LEFT_OUT) {
                        tryHoles(k, n, place, told);
                    }
                }
                System.arraycopy(lawful, 0, sorter.into, 0, MOST_LETTERS);
                sorter.throwAll(rightly);
            }
        }

        private void tryHoles(int k, int n, int place, Tape told) {
            for (int hole = 0; hole < rack.holes; hole++) {
                if (hole == lawful[place]) {
                    continue;
                }
                wrongly.copyGoesFrom(rightly);
                System.arraycopy(lawful, 0, sorter.into, 0, MOST_LETTERS);
                sorter.into[place] = hole;
                sorter.throwAll(wrongly);
                for (int later = k + 1; later < n; later++) {
                    wrongly.comeIn();
                    askKnown(wrongly, later);
                    sorter.throwAll(wrongly);
                }
                if (told.tells(wrongly)) {
                    note(k, rightly.order[place], hole);
                }
            }
        }

        private void note(int go, int letter, int hole) {
            if (found == 0) {
                firstFound[0] = go;
                firstFound[1] = letter;
                firstFound[2] = hole;
            }
            found++;
        }

        /** Hundreds of trials ask the law much the same: each answer is kept, for each last hole in bits of its own (0: none yet). */
        private void askKnown(State s, int k) {
            for (int place = 0; place < s.size; place++) {
                int letter = s.order[place];
                int row = (k * MOST_LETTERS + letter) * MOST_LETTERS + (byPlace ? place : 0);
                int shift = byHole ? BITS * s.lastHole[letter] : 0;
                int known = (int) (answers[row] >> shift) & ANSWER;
                if (known == 0) {
                    known = sorter.holeFor(s, place) - LEFT_OUT + 1;
                    answers[row] |= (long) known << shift;
                }
                sorter.into[place] = known - 1 + LEFT_OUT;
            }
        }
    }
}
