import java.util.Arrays;

/** A desert of wells in which whoever carries water from one to the next drinks as much as he brings. */
public final class DesertJars {
    public static final int NONE = -1;

    private static final int NO_WAY = -2;
    private static final int NOTHING_THERE = -3;
    private static final int NOT_TOLD = -4;
    private static final int NO_WEIGHT = -100;
    private static final int NUMBERS_NOT_TOLD = 1000000;

    private static final int MOST_WELLS = 12;
    private static final int MOST_JARS = 40;
    private static final int MOST_DAYS_A_CALL = 100;
    private static final int LAST_DAY = 9999;
    private static final int MOST_DRAW = 65535;
    private static final int TAPE_BYTES = 260;
    private static final int FED_BYTES = 20;
    private static final int LAW_BYTES = 240;
    private static final int TEXT_BYTES = 60;
    private static final int MOST_LINES = 10;
    private static final int MOST_LOST = 3;
    private static final int MOST_PAPERS = 4;
    private static final int BEYOND = 255;
    private static final int SEARCH_WELLS = 8;
    private static final int SEARCH_JARS = 12;
    private static final int FEWEST_WELLS = 7;
    private static final int VAIN_STEPS = 16;
    private static final int ASK_IT = 100;
    private static final int ASK_LAYINGS = 101;

    private static final int WRONG_SIGN = 1;
    private static final int TOO_MANY_DIGITS = 2;
    private static final int OUT_OF_BOUNDS = 3;
    private static final int TOO_MANY_LINES = 4;
    private static final int TOO_DEEP = 5;
    private static final int TOO_MANY_WELLS = 6;
    private static final int WELL_TWICE = 6;
    private static final int NO_SUCH_WELL = 7;
    private static final int NOT_TWO_WELLS = 8;

    private final Tape tape = new Tape();
    private final LandReader landReader = new LandReader(tape);
    private final Land here = new Land();
    private final Land first = new Land();
    private final Land second = new Land();
    private final Land mixed = new Land();
    private Law ruling = new Law(tape);
    private Law spare = new Law(tape);
    private final Camp camp = new Camp();
    private final Camp trial = new Camp();
    private final Camp kept = new Camp();
    private boolean anyKept;
    private final Numbers numbers = new Numbers();
    private final Search search = new Search();
    private final Fewest leanest = new Fewest();
    private final Ledger book = new Ledger();
    private final Symmetry symmetry = new Symmetry();

    public DesertJars() {
        camp.empty();
        kept.empty();
    }

    public boolean room(int w, int jars) {
        if (!here.has(w) || jars < 0 || jars > MOST_JARS) {
            return false;
        }
        camp.space[w] = jars;
        return true;
    }

    public boolean queen(int w) {
        if (!here.has(w)) {
            return false;
        }
        camp.throne = w;
        return true;
    }

    public int feed(int a, int b, int c, int d, int e) {
        if (tape.length + FED_BYTES > TAPE_BYTES) {
            return NONE;
        }
        tape.append(a);
        tape.append(b);
        tape.append(c);
        tape.append(d);
        tape.append(e);
        return tape.length;
    }

    public int law(int n) {
        if (!tape.holds(n, 1, LAW_BYTES)) {
            return NONE;
        }
        tape.begin(n);
        spare.read();
        if (tape.fault != 0) {
            return tape.fault;
        }
        Law before = ruling;
        ruling = spare;
        spare = before;
        return ruling.rules;
    }

    public int land(int n) {
        if (!tape.holds(n, 1, TEXT_BYTES)) {
            return NONE;
        }
        tape.begin(n);
        landReader.readLand();
        if (tape.fault != 0) {
            return tape.fault;
        }
        here.become(landReader.result());
        here.measure();
        camp.empty();
        numbers.forget();
        leanest.forget();
        return here.wells;
    }

    public int laying(int n) {
        if (!tape.holds(n, 1, TEXT_BYTES)) {
            return NONE;
        }
        tape.begin(n);
        readLaying();
        if (tape.fault != 0) {
            return tape.fault;
        }
        System.arraycopy(trial.jars, 0, camp.jars, 0, MOST_WELLS);
        return camp.allJars();
    }

    public int days(int n) {
        if (n < 1 || n > MOST_DAYS_A_CALL) {
            return NONE;
        }
        camp.pass(n, here, ruling);
        return camp.gone;
    }

    public int tried(int n, int what) {
        boolean ofAWell = here.has(what - 10);
        if (n < 1 || n > MOST_DAYS_A_CALL || !ofAWell && (what < 0 || what > 2)) {
            return NONE;
        }
        trial.become(camp);
        trial.pass(n, here, ruling);
        switch (what) {
            case 0:
                return trial.gone;
            case 1:
                return trial.robbed;
            case 2:
                return trial.allJars();
            default:
                return trial.jars[what - 10];
        }
    }

    public int wellIs(int w, int what) {
        if (!here.has(w)) {
            return NONE;
        }
        switch (what) {
            case 0:
                return camp.jars[w];
            case 1:
                return camp.space[w];
            case 2:
                return here.next[w];
            case 3:
                return here.way(w, camp.throne);
            default:
                return NONE;
        }
    }

    public int steps(int p, int q) {
        if (!here.has(p) || !here.has(q)) {
            return NONE;
        }
        return here.way(p, q);
    }

    public int reach(int w, int k, boolean both, int what) {
        if (!here.has(w) || k < 1 || k > MOST_JARS || what < 0 || what > 1) {
            return NONE;
        }
        if (tooMuchToSearch()) {
            return NOT_TOLD;
        }
        int moves = search.fewestMoves(here, camp.jars, w, k, both);
        if (moves < 0 || what == 0) {
            return moves;
        }
        return moves == 0 ? NOTHING_THERE : search.firstMove;
    }

    public int number(int w, int what) {
        if (!here.has(w) || !asksLaying(what)) {
            return NONE;
        }
        int told = numbers.ofWell(here, w);
        if (told < 0 || what == ASK_IT) {
            return told;
        }
        return what == ASK_LAYINGS ? numbers.layings[w] : numbers.jarsIn(w, what);
    }

    public int landNumber(int what) {
        if (what < 0 || what > 1) {
            return NONE;
        }
        if (here.wells == 0) {
            return NOTHING_THERE;
        }
        int greatest = numbers.ofLand(here);
        return greatest < 0 || what == 0 ? greatest : numbers.greatestWell;
    }

    public int fewest(int what) {
        if (!asksLaying(what)) {
            return NONE;
        }
        if (here.wells == 0) {
            return NOTHING_THERE;
        }
        if (here.wells > FEWEST_WELLS) {
            return NOT_TOLD;
        }
        leanest.find(here);
        if (what == ASK_IT) {
            return leanest.jars;
        }
        return what == ASK_LAYINGS ? leanest.layings : leanest.best[what];
    }

    public int atOnce() {
        if (here.wells == 0) {
            return NOTHING_THERE;
        }
        if (here.widest() < 0) {
            return NO_WAY;
        }
        int greatest = 0;
        for (int p = 0; p < here.wells; p++) {
            int sum = 0;
            for (int q = 0; q < here.wells; q++) {
                sum += 1 << here.way(p, q);
            }
            greatest = Math.max(greatest, sum);
        }
        return greatest;
    }

    public int paper(int w) {
        int bytes = 2 * here.wells;
        if (!here.has(w) || bytes > tape.length) {
            return NONE;
        }
        tape.begin(bytes);
        int wrong = wrongOnPaper(0, w);
        if (wrong >= 0) {
            return -2 - wrong;
        }
        int sum = 0;
        for (int v = 0; v < here.wells; v++) {
            sum += v == w ? 0 : weightOnPaper(0, v);
        }
        return sum;
    }

    public int joined(int w, int papers) {
        if (!here.has(w) || papers < 1 || papers > MOST_PAPERS || papers * 2 * here.wells > tape.length) {
            return NONE;
        }
        tape.begin(papers * 2 * here.wells);
        for (int i = 0; i < papers; i++) {
            int wrong = wrongOnPaper(i, w);
            if (wrong >= 0) {
                return -2 - wrong;
            }
        }
        int sum = 0;
        int least = Integer.MAX_VALUE;
        for (int v = 0; v < here.wells; v++) {
            if (v != w) {
                int weight = weightOnPapers(papers, v);
                sum += weight;
                least = Math.min(least, weight);
            }
        }
        return least <= 0 ? NO_WEIGHT : sum / least + 1;
    }

    public int product(int n) {
        if (!tape.holds(n, 1, TEXT_BYTES)) {
            return NONE;
        }
        tape.begin(n);
        landReader.readTwo(first, second, mixed);
        if (tape.fault != 0) {
            return tape.fault;
        }
        first.measure();
        second.measure();
        mixed.measure();
        if (numbers.refusal(first) != 0 || numbers.refusal(second) != 0 || numbers.refusal(mixed) != 0) {
            return NUMBERS_NOT_TOLD;
        }
        return numbers.ofOtherLand(first) * numbers.ofOtherLand(second) - numbers.ofOtherLand(mixed);
    }

    public int robbers(int w) {
        if (!here.has(w)) {
            return NONE;
        }
        if (tooMuchToSearch()) {
            return NOT_TOLD;
        }
        if (camp.jars[w] > 0) {
            return 1;
        }
        // Carriers who can't bring one at once never can: a MOVE makes two JARS at one WELL NEXT to w at most,
        // and the robber then takes one of these.
        for (int v = 0; v < here.wells; v++) {
            if (here.areNext(v, w) && camp.jars[v] >= 2) {
                return 1;
            }
        }
        return 0;
    }

    public int ledger(int n, int what) {
        if (what < 0 || what > 2 || !tape.holds(n, 1, TEXT_BYTES)) {
            return NONE;
        }
        tape.begin(n);
        book.read(tape, here);
        if (tape.fault != 0) {
            return tape.fault;
        }
        book.fill(here, camp);
        if (what == 0) {
            return book.ways;
        }
        if (book.ways == 0) {
            return NO_WAY;
        }
        return what == 1 ? book.least : book.most;
    }

    public int symmetries(int what) {
        if (what == ASK_IT) {
            return symmetry.howMany(here);
        }
        return here.has(what) ? symmetry.placesOf(here, what) : NONE;
    }

    public boolean seed(int x) {
        if (x < 0 || x > MOST_DRAW) {
            return false;
        }
        camp.draw = x;
        return true;
    }

    public int keep() {
        kept.become(camp);
        anyKept = true;
        return camp.day;
    }

    public boolean undo() {
        if (!anyKept) {
            return false;
        }
        camp.become(kept);
        for (int w = here.wells; w < MOST_WELLS; w++) {
            camp.jars[w] = 0;
        }
        if (!here.has(camp.throne)) {
            camp.throne = 0;
        }
        return true;
    }

    public int check(int n) {
        if (!tape.holds(n, 0, MOST_WELLS)) {
            return -2;
        }
        tape.begin(n);
        for (int w = 0; w < n; w++) {
            int due = w < here.wells ? camp.jars[w] : BEYOND;
            if (tape.byteAt(w) != due) {
                return w;
            }
        }
        return NONE;
    }

    public int count(int what) {
        switch (what) {
            case 0:
                return camp.day;
            case 1:
                return here.wells;
            case 2:
                return here.stages();
            case 3:
                return camp.allJars();
            case 4:
                return camp.throne;
            case 5:
                return ruling.rules;
            case 6:
                return tape.length;
            case 7:
                return camp.draw;
            case 8:
                return here.widest();
            default:
                return NONE;
        }
    }

    private boolean tooMuchToSearch() {
        return here.wells > SEARCH_WELLS || camp.allJars() > SEARCH_JARS;
    }

    private boolean asksLaying(int what) {
        return what == ASK_IT || what == ASK_LAYINGS || here.has(what);
    }

    /** Reads a LAYING into the trial's jars: the camp's own must stay if there is a FAULT. */
    private void readLaying() {
        Arrays.fill(trial.jars, 0);
        int laid = 0;
        for (int i = 0; i < TEXT_BYTES && !tape.atEnd(); i++) {
            int start = tape.at;
            int w = tape.letter();
            if (w >= here.wells) {
                tape.fail(NO_SUCH_WELL, start);
            } else if (w >= 0 && (laid >> w & 1) != 0) {
                tape.fail(WELL_TWICE, start);
            }
            int jars = tape.digits(2);
            if (jars > MOST_JARS) {
                tape.fail(OUT_OF_BOUNDS, start + 1);
            }
            if (tape.fault != 0) {
                return;
            }
            laid |= 1 << w;
            trial.jars[w] = jars;
        }
    }

    private int parentOnPaper(int paper, int v) {
        return tape.byteAt(2 * (paper * here.wells + v));
    }

    private int weightOnPaper(int paper, int v) {
        return tape.byteAt(2 * (paper * here.wells + v) + 1);
    }

    private int weightOnPapers(int papers, int v) {
        int sum = 0;
        for (int i = 0; i < papers; i++) {
            sum += weightOnPaper(i, v);
        }
        return sum;
    }

    /** The first WELL that is not right on a PAPER for w; NONE if all are. */
    private int wrongOnPaper(int paper, int w) {
        for (int v = 0; v < here.wells; v++) {
            int weight = weightOnPaper(paper, v);
            if (v == w || weight == 0) {
                continue;
            }
            int parent = parentOnPaper(paper, v);
            if (!here.has(parent) || !here.areNext(v, parent)) {
                return v;
            }
            // A parent that is not in it weighs 0, so this refuses it too.
            if (parent != w && 2 * weight > weightOnPaper(paper, parent)) {
                return v;
            }
        }
        return NONE;
    }

    /** The tape, and the reading of a text that stands at its front. */
    private static final class Tape {
        static final int END = -1;

        final int[] bytes = new int[TAPE_BYTES];
        int length;
        int end;
        int at;
        int fault;

        void append(int four) {
            for (int shift = 24; shift >= 0; shift -= 8) {
                if (length < bytes.length) {
                    bytes[length] = four >>> shift & 255;
                    length++;
                }
            }
        }

        boolean holds(int n, int least, int most) {
            return n >= least && n <= most && n <= length;
        }

        /** The tape is empty from now on; its bytes stay readable till more are fed. */
        void begin(int n) {
            end = n;
            at = 0;
            fault = 0;
            length = 0;
        }

        int byteAt(int place) {
            return place >= 0 && place < end && place < bytes.length ? bytes[place] : END;
        }

        int peek() {
            return at < end && at < bytes.length ? bytes[at] : END;
        }

        boolean atEnd() {
            return at >= end;
        }

        void skip() {
            at++;
        }

        /** Only the first FAULT counts; behind it nothing is left to read, so that all reading ends. */
        void fail(int kind, int place) {
            if (fault == 0) {
                fault = -1000 * kind - place;
                end = 0;
            }
        }

        boolean take(int sign) {
            if (peek() != sign) {
                fail(WRONG_SIGN, at);
                return false;
            }
            at++;
            return true;
        }

        /** A WELL's letter as its number, below 0 if there is none. */
        int letter() {
            int well = peek() - 'a';
            if (well < 0 || well >= MOST_WELLS) {
                fail(WRONG_SIGN, at);
                return NONE;
            }
            at++;
            return well;
        }

        static boolean isDigit(int sign) {
            return sign >= '0' && sign <= '9';
        }

        int digits(int most) {
            int value = 0;
            int start = at;
            for (int i = 0; i < most && isDigit(peek()); i++) {
                value = value * 10 + peek() - '0';
                at++;
            }
            if (at == start) {
                fail(WRONG_SIGN, at);
            } else if (isDigit(peek())) {
                fail(TOO_MANY_DIGITS, at);
            }
            return value;
        }
    }

    /** WELLS and which of them are NEXT to each other; the steps between them once they are measured. */
    private static final class Land {
        int wells;
        final int[] next = new int[MOST_WELLS];
        final int[] ways = new int[MOST_WELLS * MOST_WELLS];

        boolean has(int w) {
            return w >= 0 && w < wells;
        }

        boolean areNext(int p, int q) {
            return has(p) && has(q) && (next[p] >> q & 1) != 0;
        }

        int way(int p, int q) {
            return has(p) && has(q) ? ways[p * MOST_WELLS + q] : NO_WAY;
        }

        void bare(int size) {
            wells = Math.max(0, Math.min(size, MOST_WELLS));
            Arrays.fill(next, 0);
        }

        void become(Land other) {
            wells = other.wells;
            System.arraycopy(other.next, 0, next, 0, MOST_WELLS);
        }

        void join(int p, int q) {
            if (has(p) && has(q) && p != q) {
                next[p] |= 1 << q;
                next[q] |= 1 << p;
            }
        }

        void part(int p, int q) {
            if (has(p) && has(q)) {
                next[p] &= ~(1 << q);
                next[q] &= ~(1 << p);
            }
        }

        void becomeShape(int kind, int size) {
            bare(size);
            for (int w = 1; w < wells; w++) {
                if (kind == 'S') {
                    join(0, w);
                } else {
                    join(w - 1, w);
                }
                for (int v = 0; kind == 'K' && v < w; v++) {
                    join(v, w);
                }
            }
            if (kind == 'R') {
                join(wells - 1, 0);
            }
        }

        /** The product of two lands, neither of which is this one. */
        void becomeProduct(Land a, Land b) {
            bare(a.wells * b.wells);
            for (int i = 0; i < a.wells; i++) {
                for (int j = 0; j < b.wells; j++) {
                    joinInProduct(a, b, i, j);
                }
            }
        }

        private void joinInProduct(Land a, Land b, int i, int j) {
            int w = i * b.wells + j;
            for (int k = 0; k < i; k++) {
                if (a.areNext(i, k)) {
                    join(w, k * b.wells + j);
                }
            }
            for (int k = 0; k < j; k++) {
                if (b.areNext(j, k)) {
                    join(w, i * b.wells + k);
                }
            }
        }

        void measure() {
            Arrays.fill(ways, NO_WAY);
            for (int p = 0; p < wells; p++) {
                measureFrom(p);
            }
        }

        private void measureFrom(int p) {
            int seen = 1 << p;
            int edge = seen;
            for (int far = 0; far < wells && edge != 0; far++) {
                int beyond = 0;
                for (int q = 0; q < wells; q++) {
                    if ((edge >> q & 1) != 0) {
                        ways[p * MOST_WELLS + q] = far;
                        beyond |= next[q];
                    }
                }
                edge = beyond & ~seen;
                seen |= edge;
            }
        }

        int stages() {
            int sum = 0;
            for (int w = 0; w < wells; w++) {
                sum += Integer.bitCount(next[w]);
            }
            return sum / 2;
        }

        int widest() {
            int most = 0;
            for (int p = 0; p < wells; p++) {
                for (int q = 0; q < p; q++) {
                    if (way(p, q) < 0) {
                        return NO_WAY;
                    }
                    most = Math.max(most, way(p, q));
                }
            }
            return most;
        }
    }

    /** Reads lands: what is read of a WHOLE lies by the depth of the ( that are open around it. */
    private static final class LandReader {
        static final int DEEPEST = 2;

        final Tape tape;
        final Land[] wholes = new Land[DEEPEST + 1];
        final Land plain = new Land();
        final Land mixed = new Land();

        LandReader(Tape tape) {
            this.tape = tape;
            for (int i = 0; i <= DEEPEST; i++) {
                wholes[i] = new Land();
            }
        }

        Land result() {
            return wholes[0];
        }

        void readLand() {
            readWhole(0);
            for (int lines = 0; lines <= TEXT_BYTES && tape.fault == 0 && !tape.atEnd(); lines++) {
                if (tape.take(';')) {
                    readLine(wholes[0], lines);
                }
            }
        }

        void readTwo(Land a, Land b, Land product) {
            readWhole(0);
            a.become(wholes[0]);
            if (tape.fault != 0 || !tape.take(',')) {
                return;
            }
            int start = tape.at;
            readWhole(0);
            b.become(wholes[0]);
            if (tape.fault == 0 && a.wells * b.wells > MOST_WELLS) {
                tape.fail(TOO_MANY_WELLS, start);
            } else if (!tape.atEnd()) {
                tape.fail(WRONG_SIGN, tape.at);
            }
            if (tape.fault == 0) {
                product.becomeProduct(a, b);
            }
        }

        private void readWhole(int depth) {
            for (int parts = 0; parts < TEXT_BYTES; parts++) {
                int start = tape.at;
                Land part = readPart(depth);
                if (tape.fault != 0) {
                    return;
                }
                if (parts == 0) {
                    wholes[depth].become(part);
                } else if (wholes[depth].wells * part.wells > MOST_WELLS) {
                    tape.fail(TOO_MANY_WELLS, start);
                    return;
                } else {
                    mixed.becomeProduct(wholes[depth], part);
                    wholes[depth].become(mixed);
                }
                if (tape.peek() != '*') {
                    return;
                }
                tape.skip();
            }
        }

        private Land readPart(int depth) {
            int sign = tape.peek();
            if (sign != '(') {
                readShape(sign);
                return plain;
            }
            if (depth >= DEEPEST) {
                tape.fail(TOO_DEEP, tape.at);
                return plain;
            }
            tape.skip();
            readWhole(depth + 1);
            tape.take(')');
            return wholes[depth + 1];
        }

        private void readShape(int kind) {
            if (kind != 'L' && kind != 'R' && kind != 'S' && kind != 'K') {
                tape.fail(WRONG_SIGN, tape.at);
                return;
            }
            tape.skip();
            int start = tape.at;
            int size = tape.digits(2);
            int least = kind == 'R' ? 3 : kind == 'S' ? 2 : 1;
            if (size < least || size > MOST_WELLS) {
                tape.fail(OUT_OF_BOUNDS, start);
            } else {
                plain.becomeShape(kind, size);
            }
        }

        private void readLine(Land land, int linesBefore) {
            int start = tape.at;
            int p = tape.letter();
            if (p >= 0 && linesBefore >= MOST_LINES) {
                tape.fail(TOO_MANY_LINES, start);
            } else if (p >= land.wells) {
                tape.fail(NO_SUCH_WELL, start);
            }
            int sign = tape.peek();
            if (sign != '-' && sign != '/') {
                tape.fail(WRONG_SIGN, tape.at);
                return;
            }
            tape.skip();
            int q = tape.letter();
            if (q >= land.wells) {
                tape.fail(NO_SUCH_WELL, start + 2);
            } else if (q == p) {
                tape.fail(NOT_TWO_WELLS, start + 2);
            } else if (sign == '-') {
                land.join(p, q);
            } else {
                land.part(p, q);
            }
        }
    }

    /** THE LAW as rows of orders for a small reckoner with a stack and a flag. */
    private static final class Law {
        static final int MOST_RULES = 16;
        static final int CODE_LENGTH = 640;
        static final int STACK_LENGTH = 48;
        static final int NUMBER = 1;
        static final int GIVEN = 2;
        static final int END_OF_WORTH = 3;
        static final int END_OF_TEST = 4;
        static final String LETTERS = "fgnmsqjdw";
        static final int FROM = 0;
        static final int TO = 1;
        static final int JARS_FROM = 2;
        static final int JARS_TO = 3;
        static final int WAY = 4;
        static final int THRONE = 5;
        static final int ALL_JARS = 6;
        static final int DAY = 7;
        static final int DRAW = 8;
        static final int DEEPEST = 6;
        static final int MOST_DIGITS = 5;

        final Tape tape;
        int rules;
        final int[] kinds = new int[MOST_RULES];
        final int[] worths = new int[MOST_RULES];
        final int[] tests = new int[MOST_RULES];
        final int[] code = new int[CODE_LENGTH];
        int size;
        final int[] given = new int[DRAW + 1];
        final int[] stack = new int[STACK_LENGTH];

        Law(Tape tape) {
            this.tape = tape;
        }

        /** Reads all RULES; in what reads parts of them, depth is how many of ( [ ! are open. */
        void read() {
            rules = 0;
            size = 0;
            for (int i = 0; i < LAW_BYTES; i++) {
                readRule();
                if (tape.fault != 0 || tape.atEnd()) {
                    return;
                }
                tape.take(';');
            }
        }

        private void readRule() {
            int kind = tape.peek();
            if (kind != 'e' && kind != 'c' && kind != 'r' && kind != 'x') {
                tape.fail(WRONG_SIGN, tape.at);
                return;
            }
            if (rules >= MOST_RULES) {
                tape.fail(TOO_MANY_LINES, tape.at);
                return;
            }
            tape.skip();
            kinds[rules] = kind;
            worths[rules] = size;
            if (kind != 'x') {
                readSum(0);
                emit(END_OF_WORTH);
            }
            tests[rules] = size;
            rules++;
            readInBrackets(0);
            emit(END_OF_TEST);
        }

        private boolean opens(int depth) {
            if (depth >= DEEPEST) {
                tape.fail(TOO_DEEP, tape.at);
                return false;
            }
            tape.skip();
            return true;
        }

        private void readInBrackets(int depth) {
            if (tape.peek() != '(') {
                tape.fail(WRONG_SIGN, tape.at);
            } else if (opens(depth)) {
                readChoice(depth + 1);
                tape.take(')');
            }
        }

        /** A C: an & that fails jumps to the next & or past its PART, an | that holds to the next | or past all. */
        private void readChoice(int depth) {
            int failing = -1;
            int holding = -1;
            readTest(depth);
            for (int i = 0; i < LAW_BYTES; i++) {
                int sign = tape.peek();
                settle(failing);
                failing = -1;
                if (sign != '&') {
                    settle(holding);
                }
                if (sign != '&' && sign != '|') {
                    return;
                }
                tape.skip();
                emit(sign);
                if (sign == '&') {
                    failing = emit(0);
                } else {
                    holding = emit(0);
                }
                readTest(depth);
            }
        }

        private void readTest(int depth) {
            int sign = tape.peek();
            if (sign == '(') {
                readInBrackets(depth);
            } else if (sign == '!') {
                if (opens(depth)) {
                    readTest(depth + 1);
                    emit('!');
                }
            } else {
                readSum(depth);
                int comparing = tape.peek();
                if (comparing != '<' && comparing != '>' && comparing != '=') {
                    tape.fail(WRONG_SIGN, tape.at);
                    return;
                }
                tape.skip();
                readSum(depth);
                emit(comparing);
            }
        }

        /** An E: a + or - waits till the FACTORS behind it are taken together. */
        private void readSum(int depth) {
            int waiting = 0;
            readFactor(depth);
            for (int i = 0; i < LAW_BYTES; i++) {
                int sign = tape.peek();
                boolean ofTerm = sign == '*' || sign == '/' || sign == '%';
                boolean ofSum = sign == '+' || sign == '-';
                if (!ofTerm && waiting != 0) {
                    emit(waiting);
                    waiting = 0;
                }
                if (!ofTerm && !ofSum) {
                    return;
                }
                tape.skip();
                readFactor(depth);
                if (ofTerm) {
                    emit(sign);
                } else {
                    waiting = sign;
                }
            }
        }

        private void readFactor(int depth) {
            int sign = tape.peek();
            if (sign == '[') {
                if (opens(depth)) {
                    readSum(depth + 1);
                    tape.take(']');
                }
            } else if (Tape.isDigit(sign)) {
                emit(NUMBER);
                emit(tape.digits(MOST_DIGITS));
            } else {
                int letter = sign < 0 ? -1 : LETTERS.indexOf((char) sign);
                if (letter < 0) {
                    tape.fail(WRONG_SIGN, tape.at);
                    return;
                }
                tape.skip();
                emit(GIVEN);
                emit(letter);
            }
        }

        private int emit(int order) {
            int place = size;
            if (size < CODE_LENGTH) {
                code[size] = order;
                size++;
            }
            return place;
        }

        /** Lets a jump, if there is one, go on at what comes next. */
        private void settle(int jump) {
            if (jump >= 0 && jump < CODE_LENGTH) {
                code[jump] = size;
            }
        }

        void place(int from, int to, int jarsFrom, int jarsTo, int way) {
            given[FROM] = from;
            given[TO] = to;
            given[JARS_FROM] = jarsFrom;
            given[JARS_TO] = jarsTo;
            given[WAY] = way;
        }

        /** The E of the first RULE of a kind whose C holds, within bounds; otherwise what it is without one. */
        int worth(int kind, int without, int least, int most) {
            for (int i = 0; i < rules; i++) {
                if (kinds[i] == kind && reckon(tests[i]) != 0) {
                    return Math.max(least, Math.min(most, reckon(worths[i])));
                }
            }
            return without;
        }

        boolean anyHolds(int kind) {
            for (int i = 0; i < rules; i++) {
                if (kinds[i] == kind && reckon(tests[i]) != 0) {
                    return true;
                }
            }
            return false;
        }

        /** What the orders from a place on come to; 0 if that is REFUSED, which is due for an E and for a C. */
        private int reckon(int start) {
            int top = 0;
            int flag = 0;
            int at = start;
            for (int i = 0; i < CODE_LENGTH; i++) {
                if (at < 0 || at + 1 >= CODE_LENGTH || top >= STACK_LENGTH) {
                    return 0;
                }
                int order = code[at];
                int operand = code[at + 1];
                if (order == NUMBER) {
                    stack[top] = operand;
                    top++;
                    at += 2;
                } else if (order == GIVEN) {
                    stack[top] = operand >= 0 && operand <= DRAW ? given[operand] : 0;
                    top++;
                    at += 2;
                } else if (order == '&') {
                    at = flag == 0 ? operand : at + 2;
                } else if (order == '|') {
                    at = flag != 0 ? operand : at + 2;
                } else if (order == '!') {
                    flag = 1 - flag;
                    at++;
                } else if (order == END_OF_TEST) {
                    return flag;
                } else if (top < 2) {
                    return order == END_OF_WORTH && top == 1 ? stack[0] : 0;
                } else {
                    int left = stack[top - 2];
                    int right = stack[top - 1];
                    if (right == 0 && (order == '/' || order == '%')) {
                        return 0;
                    }
                    at++;
                    if (order == '<' || order == '>' || order == '=') {
                        top -= 2;
                        flag = compares(order, left, right) ? 1 : 0;
                    } else {
                        top--;
                        stack[top - 1] = combined(order, left, right);
                    }
                }
            }
            return 0;
        }

        private static boolean compares(int sign, int left, int right) {
            return sign == '<' ? left < right : sign == '>' ? left > right : left == right;
        }

        private static int combined(int sign, int left, int right) {
            switch (sign) {
                case '+':
                    return left + right;
                case '-':
                    return left - right;
                case '*':
                    return left * right;
                case '/':
                    return right == 0 ? 0 : left / right;
                default:
                    return right == 0 ? 0 : left % right;
            }
        }
    }

    /** JARS, ROOM, THE QUEEN, THE DAY and the DRAWS: all that DAYS change and that is KEPT. */
    private static final class Camp {
        static final int FAR = 99;

        final int[] jars = new int[MOST_WELLS];
        final int[] space = new int[MOST_WELLS];
        int throne;
        int day;
        int draw = 1;
        int gone;
        int robbed;

        void empty() {
            Arrays.fill(jars, 0);
            Arrays.fill(space, MOST_JARS);
            throne = 0;
        }

        void become(Camp other) {
            System.arraycopy(other.jars, 0, jars, 0, MOST_WELLS);
            System.arraycopy(other.space, 0, space, 0, MOST_WELLS);
            throne = other.throne;
            day = other.day;
            draw = other.draw;
        }

        int allJars() {
            int sum = 0;
            for (int w = 0; w < MOST_WELLS; w++) {
                sum += jars[w];
            }
            return sum;
        }

        void pass(int n, Land land, Law law) {
            gone = 0;
            robbed = 0;
            for (int i = 0; i < n && day < LAST_DAY; i++) {
                passOne(land, law);
            }
        }

        private void passOne(Land land, Law law) {
            law.given[Law.THRONE] = throne;
            law.given[Law.ALL_JARS] = allJars();
            law.given[Law.DAY] = day % 100;
            law.given[Law.DRAW] = nextDraw();
            law.place(0, 0, 0, 0, 0);
            if (!law.anyHolds('x')) {
                goBestStage(land, law);
            }
            for (int w = 0; w < land.wells; w++) {
                if (jars[w] > 0) {
                    robAt(w, land, law);
                }
            }
            day++;
        }

        private int nextDraw() {
            draw = (25173 * draw + 13849) % (MOST_DRAW + 1);
            return draw % 10;
        }

        private static int wayOrFar(Land land, int from, int to) {
            int way = land.way(from, to);
            return way < 0 ? FAR : way;
        }

        private void goBestStage(Land land, Law law) {
            int most = 0;
            int bestFrom = 0;
            int bestTo = 0;
            int bestCost = 0;
            for (int from = 0; from < land.wells; from++) {
                for (int to = 0; to < land.wells; to++) {
                    // No stage costs fewer than 2: THE LAW need not be asked of those that can't be gone.
                    if (jars[from] < 2 || jars[to] >= space[to] || !land.areNext(from, to)) {
                        continue;
                    }
                    law.place(from, to, jars[from], jars[to], wayOrFar(land, to, throne));
                    int liking = law.worth('e', 0, 0, 9999);
                    if (liking > most) {
                        int cost = law.worth('c', 2, 2, 9);
                        if (jars[from] >= cost) {
                            most = liking;
                            bestFrom = from;
                            bestTo = to;
                            bestCost = cost;
                        }
                    }
                }
            }
            if (most > 0) {
                jars[bestFrom] -= bestCost;
                jars[bestTo]++;
                gone++;
            }
        }

        private void robAt(int w, Land land, Law law) {
            law.given[Law.ALL_JARS] = allJars();
            law.place(w, 0, jars[w], 0, wayOrFar(land, w, throne));
            int tenths = law.worth('r', 0, 0, 10);
            if (nextDraw() < tenths) {
                jars[w]--;
                robbed++;
            }
        }
    }

    /** Numbers the rows of JARS by their sum, then from the greatest row on: those of a sum stand together. */
    private static final class Ranks {
        static final int WIDTH = SEARCH_JARS + 2;

        final int[] below = new int[SEARCH_WELLS * WIDTH];

        Ranks() {
            for (int i = 0; i < SEARCH_WELLS; i++) {
                for (int sum = 1; sum < WIDTH; sum++) {
                    int fewer = below[i * WIDTH + sum - 1];
                    below[i * WIDTH + sum] = i == 0 ? sum : fewer + below[(i - 1) * WIDTH + sum];
                }
            }
        }

        /** How many rows of so many WELLS (1 to 8) have less than so many JARS (0 to 13) in all. */
        int rowsBelow(int wells, int sum) {
            int place = (wells - 1) * WIDTH + sum;
            return wells > 0 && sum >= 0 && sum < WIDTH && place < below.length ? below[place] : 0;
        }

        int rank(int[] row, int wells) {
            int rank = 0;
            int sum = 0;
            for (int w = wells - 1; w >= 0; w--) {
                sum += row[w];
                rank += rowsBelow(wells - w, sum);
            }
            return rank;
        }
    }

    /**
     * Seeks the fewest MOVES: all layings of one more MOVE after those of one less, but only those from which it can
     * still be done within a limit; then anew with the next limit that lets in more.
     */
    private static final class Search {
        static final int MOST_MOVES = 56 + 168;
        static final int HALVES = SEARCH_WELLS - 1;
        static final int NEVER = 1000;

        final Ranks ranks = new Ranks();
        final int[] takenA = new int[MOST_MOVES];
        final int[] takenB = new int[MOST_MOVES];
        final int[] given = new int[MOST_MOVES];
        final int[] nearest = new int[SEARCH_WELLS];
        final int[] ways = new int[SEARCH_WELLS];
        final int[] row = new int[SEARCH_WELLS];
        int moves;
        int[] seen = new int[0];
        int[] layings = new int[0];
        byte[] starts = new byte[0];
        int found;
        int wells;
        int reachable;
        int aim;
        int due;
        int limit;
        int nextLimit;
        int firstMove;

        int fewestMoves(Land land, int[] jars, int w, int k, boolean both) {
            wells = Math.min(land.wells, SEARCH_WELLS);
            aim = w;
            due = k;
            System.arraycopy(jars, 0, row, 0, wells);
            if (row[aim] >= due) {
                return 0;
            }
            sortByWay(land);
            listMoves(land, both);
            int start = packed();
            nextLimit = leastMoves();
            for (int i = 0; i < SEARCH_JARS && nextLimit < NEVER; i++) {
                limit = nextLimit;
                nextLimit = NEVER;
                int needed = goWithinLimit(start);
                if (needed > 0) {
                    return needed;
                }
            }
            return NO_WAY;
        }

        /** WELLS from which there is a way to the aim, the nearest first, without the aim itself. */
        private void sortByWay(Land land) {
            reachable = 0;
            for (int way = 1; way < wells; way++) {
                for (int v = 0; v < wells; v++) {
                    if (land.way(v, aim) == way) {
                        nearest[reachable] = v;
                        ways[reachable] = way;
                        reachable++;
                    }
                }
            }
        }

        /** In the order in which of like ones the first is told. */
        private void listMoves(Land land, boolean both) {
            moves = 0;
            for (int a = 0; a < wells; a++) {
                addMoves(a, a, land.next[a]);
            }
            for (int a = 0; both && a < wells; a++) {
                for (int b = a + 1; b < wells; b++) {
                    addMoves(a, b, land.next[a] & land.next[b]);
                }
            }
        }

        private void addMoves(int a, int b, int targets) {
            for (int c = 0; c < wells; c++) {
                if ((targets >> c & 1) != 0 && moves < MOST_MOVES) {
                    takenA[moves] = a;
                    takenB[moves] = b;
                    given[moves] = c;
                    moves++;
                }
            }
        }

        /**
         * No fewer MOVES will do from this row: a JAR that is d steps away can be no more than 1 / 2 to the d of one
         * that is due, and each MOVE takes one JAR away from those that are used up. NEVER if all are not enough.
         */
        private int leastMoves() {
            int lacking = due - row[aim];
            int needed = lacking << HALVES;
            int used = 0;
            for (int i = 0; i < reachable && needed > 0; i++) {
                int part = HALVES - ways[i];
                int enough = needed + (1 << part) - 1 >> part;
                int taken = Math.min(row[nearest[i]], enough);
                used += taken;
                needed -= taken << part;
            }
            return needed > 0 ? NEVER : used - lacking;
        }

        private int packed() {
            int bits = 0;
            for (int v = 0; v < wells; v++) {
                bits |= row[v] << 4 * v;
            }
            return bits;
        }

        private void unpack(int bits) {
            for (int v = 0; v < wells; v++) {
                row[v] = bits >>> 4 * v & 15;
            }
        }

        private void makeSpace(int start) {
            unpack(start);
            int sum = 0;
            for (int v = 0; v < wells; v++) {
                sum += row[v];
            }
            int words = ranks.rowsBelow(wells, sum + 1) / 32 + 1;
            if (seen.length < words) {
                seen = new int[words];
            } else {
                Arrays.fill(seen, 0, words, 0);
            }
            // One laying at first, one for each first MOVE, and then all of two JARS less at most.
            int most = 1 + MOST_MOVES + ranks.rowsBelow(wells, Math.max(0, sum - 1));
            if (layings.length < most) {
                layings = new int[most];
                starts = new byte[most];
            }
        }

        /** How many MOVES it takes, 0 if more than the limit; among the layings of a level first MOVES stay in order. */
        private int goWithinLimit(int start) {
            makeSpace(start);
            layings[0] = start;
            found = 1;
            int levelStart = 0;
            for (int level = 1; level <= limit; level++) {
                int levelEnd = found;
                for (int i = levelStart; i < levelEnd; i++) {
                    int last = goFrom(i, level);
                    if (last >= 0) {
                        int move = level == 1 ? last : starts[i] & 255;
                        firstMove = 256 * takenA[move] + 16 * takenB[move] + given[move];
                        return level;
                    }
                }
                levelStart = levelEnd;
            }
            return 0;
        }

        /** Adds the layings that are one MOVE from laying i; the MOVE by which all is done, NONE if none does it. */
        private int goFrom(int i, int level) {
            unpack(layings[i]);
            for (int move = 0; move < moves; move++) {
                int a = takenA[move];
                int b = takenB[move];
                int c = given[move];
                if (row[a] < 1 || row[b] < 1 || a == b && row[a] < 2) {
                    continue;
                }
                row[a]--;
                row[b]--;
                row[c]++;
                int left = leastMoves();
                if (left == 0) {
                    return move;
                }
                if (level + left <= limit) {
                    addIfNew(level == 1 ? (byte) move : starts[i]);
                } else {
                    nextLimit = Math.min(nextLimit, level + left);
                }
                row[a]++;
                row[b]++;
                row[c]--;
            }
            return NONE;
        }

        private void addIfNew(byte start) {
            int rank = ranks.rank(row, wells);
            int word = rank >> 5;
            int bit = 1 << (rank & 31);
            if (word < seen.length && (seen[word] & bit) == 0 && found < layings.length) {
                seen[word] |= bit;
                layings[found] = packed();
                starts[found] = start;
                found++;
            }
        }
    }

    /**
     * THE NUMBERS of WELLS by the layings that are IN VAIN; those of THE LAND are kept till there is another one.
     * IN VAIN a WELL that is d steps away has less than 2 to the d JARS, so d bits hold them, and 16 bits the
     * laying: the WELLS by numbers, the highest bits first, so that the greatest row is the greatest int.
     */
    private static final class Numbers {
        static final int MOST_MOVES = 132;

        final int[] told = new int[MOST_WELLS];
        final int[] layings = new int[MOST_WELLS];
        final int[] rows = new int[MOST_WELLS * MOST_WELLS];
        int greatestWell;
        int[] found = new int[0];
        int[] marks = new int[0];
        final int[] shifts = new int[MOST_WELLS];
        final int[] fields = new int[MOST_WELLS];
        final int[] two = new int[MOST_MOVES];
        final int[] full = new int[MOST_MOVES];
        final int[] change = new int[MOST_MOVES];
        int moves;
        int wells;
        int size;
        int levelStart;

        void forget() {
            Arrays.fill(told, 0);
        }

        /** Why THE NUMBER of a WELL is not told; 0 if it is. */
        private static int refusalAt(Land land, int w) {
            int sum = 0;
            for (int v = 0; v < land.wells; v++) {
                int way = land.way(v, w);
                if (way < 0) {
                    return NO_WAY;
                }
                sum += way;
            }
            return sum > VAIN_STEPS ? NOT_TOLD : 0;
        }

        int refusal(Land land) {
            for (int w = 0; w < land.wells; w++) {
                int why = refusalAt(land, w);
                if (why != 0) {
                    return why;
                }
            }
            return 0;
        }

        int ofWell(Land land, int w) {
            int why = refusalAt(land, w);
            if (why != 0 || told[w] > 0) {
                return why != 0 ? why : told[w];
            }
            told[w] = mostInVain(land, w) + 1;
            layings[w] = size - levelStart;
            int best = 0;
            for (int i = levelStart; i < size; i++) {
                best = Math.max(best, found[i]);
            }
            for (int v = 0; v < land.wells; v++) {
                rows[w * MOST_WELLS + v] = (best & fields[v]) >> shifts[v];
            }
            return told[w];
        }

        int ofLand(Land land) {
            int greatest = refusal(land);
            for (int w = 0; greatest >= 0 && w < land.wells; w++) {
                if (ofWell(land, w) > greatest) {
                    greatest = told[w];
                    greatestWell = w;
                }
            }
            return greatest;
        }

        /** THE NUMBER of a land for which there is no refusal; nothing of it is kept. */
        int ofOtherLand(Land land) {
            int greatest = 0;
            for (int w = 0; w < land.wells; w++) {
                greatest = Math.max(greatest, mostInVain(land, w) + 1);
            }
            return greatest;
        }

        int jarsIn(int w, int v) {
            int place = w * MOST_WELLS + v;
            return place >= 0 && place < rows.length ? rows[place] : 0;
        }

        /** Finds all layings IN VAIN, by how many JARS they have; those of the most stand last. */
        private int mostInVain(Land land, int w) {
            layOut(land, w);
            moves = 0;
            // Those that go nearer come first: they tell sooner that a laying is not IN VAIN.
            listMoves(land, w, true);
            listMoves(land, w, false);
            found[0] = 0;
            mark(0);
            size = 1;
            levelStart = 0;
            for (int jars = 0; jars < found.length; jars++) {
                int end = size;
                for (int i = levelStart; i < end; i++) {
                    growFrom(found[i]);
                }
                if (size == end) {
                    return jars;
                }
                levelStart = end;
            }
            return 0;
        }

        private void layOut(Land land, int w) {
            wells = land.wells;
            int bits = 0;
            for (int v = wells - 1; v >= 0; v--) {
                int way = Math.max(0, land.way(v, w));
                shifts[v] = bits;
                fields[v] = (1 << way) - 1 << bits;
                bits = Math.min(bits + way, VAIN_STEPS);
            }
            if (found.length < 1 << bits) {
                found = new int[1 << bits];
                marks = new int[(1 << bits) / 32 + 1];
            } else {
                Arrays.fill(marks, 0);
            }
        }

        private void listMoves(Land land, int w, boolean nearer) {
            for (int a = 0; a < wells; a++) {
                for (int b = 0; b < wells; b++) {
                    boolean goesNearer = land.way(b, w) < land.way(a, w);
                    // IN VAIN one NEXT to w never has two JARS, so no MOVE starts there and none ends at w.
                    if (land.areNext(a, b) && land.way(a, w) >= 2 && goesNearer == nearer && moves < MOST_MOVES) {
                        two[moves] = fields[a] & ~(1 << shifts[a]);
                        full[moves] = fields[b];
                        change[moves] = (1 << shifts[b]) - (2 << shifts[a]);
                        moves++;
                    }
                }
            }
        }

        private void mark(int laying) {
            int word = laying >> 5;
            if (word >= 0 && word < marks.length) {
                marks[word] |= 1 << (laying & 31);
            }
        }

        private boolean isMarked(int laying) {
            int word = laying >> 5;
            return word >= 0 && word < marks.length && (marks[word] >> (laying & 31) & 1) != 0;
        }

        /** Fewer JARS than IN VAIN are IN VAIN: each laying is met once, from that with one less at its last WELL. */
        private void growFrom(int laying) {
            for (int v = wells - 1; v >= 0; v--) {
                if ((laying & fields[v]) != fields[v]) {
                    int more = laying + (1 << shifts[v]);
                    if (size < found.length && isInVain(more)) {
                        found[size] = more;
                        size++;
                        mark(more);
                    }
                }
                if ((laying & fields[v]) != 0) {
                    return;
                }
            }
        }

        /** All with one JAR less are known: a laying is IN VAIN if each MOVE leads to one that is. */
        private boolean isInVain(int laying) {
            for (int i = 0; i < moves; i++) {
                if ((laying & two[i]) != 0
                        && ((laying & full[i]) == full[i] || !isMarked(laying + change[i]))) {
                    return false;
                }
            }
            return true;
        }
    }

    /** THE FEWEST, kept till there is another LAND. */
    private static final class Fewest {
        final Ranks ranks = new Ranks();
        final int[] row = new int[FEWEST_WELLS];
        final int[] best = new int[FEWEST_WELLS];
        int[] reached = new int[0];
        int jars;
        int layings;

        void forget() {
            layings = 0;
        }

        void find(Land land) {
            int wells = Math.min(land.wells, FEWEST_WELLS);
            if (layings > 0) {
                return;
            }
            // One JAR at each WELL is enough, so no more are ever laid.
            int most = ranks.rowsBelow(wells, wells + 1);
            if (reached.length < most) {
                reached = new int[most];
            }
            for (int sum = 1; sum <= wells && layings == 0; sum++) {
                jars = sum;
                tryAll(land, wells);
            }
        }

        private void tryAll(Land land, int wells) {
            Arrays.fill(row, 0);
            row[0] = jars;
            int end = ranks.rowsBelow(wells, jars + 1);
            for (int rank = ranks.rowsBelow(wells, jars); rank < end && rank < reached.length; rank++) {
                reached[rank] = reachedFrom(land, wells);
                if (reached[rank] == (1 << wells) - 1) {
                    if (layings == 0) {
                        System.arraycopy(row, 0, best, 0, FEWEST_WELLS);
                    }
                    layings++;
                }
                goToLesserRow(wells);
            }
        }

        /** The next one of so many JARS, the greatest row being the first. */
        private void goToLesserRow(int wells) {
            int tail = row[wells - 1];
            for (int i = wells - 2; i >= 0; i--) {
                if (row[i] > 0) {
                    row[wells - 1] = 0;
                    row[i]--;
                    row[i + 1] = tail + 1;
                    return;
                }
            }
        }

        private int reachedFrom(Land land, int wells) {
            int all = 0;
            for (int a = 0; a < wells; a++) {
                all |= row[a] > 0 ? 1 << a : 0;
                for (int b = 0; row[a] >= 2 && b < wells; b++) {
                    if (land.areNext(a, b)) {
                        row[a] -= 2;
                        row[b]++;
                        int rank = ranks.rank(row, wells);
                        all |= rank < reached.length ? reached[rank] : 0;
                        row[a] += 2;
                        row[b]--;
                    }
                }
            }
            return all;
        }
    }

    /**
     * A LEDGER as the stretches between its lost lines: of each, JARS that a WELL must have ahead of it and what
     * it changes there.
     */
    private static final class Ledger {
        final int[] needs = new int[(MOST_LOST + 1) * MOST_WELLS];
        final int[] changes = new int[(MOST_LOST + 1) * MOST_WELLS];
        final int[] row = new int[MOST_WELLS];
        int lost;
        int throne;
        int ways;
        int least;
        int most;

        void read(Tape tape, Land land) {
            Arrays.fill(needs, 0);
            Arrays.fill(changes, 0);
            lost = 0;
            for (int lines = 0; lines <= TEXT_BYTES; lines++) {
                readLine(tape, land, lines);
                if (tape.fault != 0 || tape.atEnd()) {
                    return;
                }
                tape.take(';');
            }
        }

        private void readLine(Tape tape, Land land, int linesBefore) {
            int start = tape.at;
            boolean isLost = tape.peek() == '?';
            int from = isLost ? NONE : tape.letter();
            if ((isLost || from >= 0) && linesBefore >= MOST_LINES) {
                tape.fail(TOO_MANY_LINES, start);
            } else if (isLost) {
                readLost(tape);
            } else if (from >= land.wells) {
                tape.fail(NO_SUCH_WELL, start);
            } else if (from >= 0 && tape.take('>')) {
                int to = tape.letter();
                if (to >= land.wells) {
                    tape.fail(NO_SUCH_WELL, start + 2);
                } else if (to >= 0 && !land.areNext(from, to)) {
                    tape.fail(NOT_TWO_WELLS, start + 2);
                } else if (to >= 0) {
                    note(from, to);
                }
            }
        }

        private void readLost(Tape tape) {
            if (lost >= MOST_LOST) {
                tape.fail(TOO_DEEP, tape.at);
                return;
            }
            tape.skip();
            lost++;
        }

        private void note(int from, int to) {
            int stretch = lost * MOST_WELLS;
            needs[stretch + from] = Math.max(needs[stretch + from], 2 - changes[stretch + from]);
            changes[stretch + from] -= 2;
            changes[stretch + to]++;
        }

        void fill(Land land, Camp camp) {
            System.arraycopy(camp.jars, 0, row, 0, MOST_WELLS);
            throne = camp.throne;
            ways = 0;
            least = Integer.MAX_VALUE;
            most = 0;
            go(land, 0);
        }

        /** Goes the stretch behind so many lost lines, then all MOVES that the next lost line may be. */
        private void go(Land land, int stretch) {
            if (stretch > MOST_LOST || lackAt(stretch) != NONE) {
                return;
            }
            change(stretch, 1);
            if (stretch >= lost) {
                ways++;
                tell(row[throne]);
            } else if (stretch == lost - 1) {
                fillLast(land, lost);
            } else {
                fillOne(land, stretch);
            }
            change(stretch, -1);
        }

        private void change(int stretch, int times) {
            for (int w = 0; w < MOST_WELLS; w++) {
                row[w] += times * changes[stretch * MOST_WELLS + w];
            }
        }

        /** The first WELL that has not what a stretch needs; NONE if all have. */
        private int lackAt(int stretch) {
            for (int w = 0; w < MOST_WELLS; w++) {
                if (row[w] < needs[stretch * MOST_WELLS + w]) {
                    return w;
                }
            }
            return NONE;
        }

        private void fillOne(Land land, int stretch) {
            for (int a = 0; a < land.wells; a++) {
                for (int b = 0; row[a] >= 2 && b < land.wells; b++) {
                    if (land.areNext(a, b)) {
                        row[a] -= 2;
                        row[b]++;
                        go(land, stretch + 1);
                        row[a] += 2;
                        row[b]--;
                    }
                }
            }
        }

        /**
         * The last lost line at once, since there may be thousands of ways to it: it must bring the one JAR that a
         * WELL lacks for the last stretch, or goes anywhere if none lacks one.
         */
        private void fillLast(Land land, int stretch) {
            int lacking = lackAt(stretch);
            int targets = -1;
            if (lacking != NONE) {
                targets = 1 << lacking;
                row[lacking]++;
                boolean stillLacks = lackAt(stretch) != NONE;
                row[lacking]--;
                if (stillLacks) {
                    return;
                }
            }
            int last = row[throne] + changes[stretch * MOST_WELLS + throne];
            for (int a = 0; a < land.wells; a++) {
                int to = land.next[a] & targets;
                if (to == 0 || row[a] - 2 < needs[stretch * MOST_WELLS + a]) {
                    continue;
                }
                ways += Integer.bitCount(to);
                if ((to >> throne & 1) != 0) {
                    tell(last + 1);
                }
                if ((to & ~(1 << throne)) != 0) {
                    tell(a == throne ? last - 2 : last);
                }
            }
        }

        private void tell(int jars) {
            least = Math.min(least, jars);
            most = Math.max(most, jars);
        }
    }

    /** A land's SYMMETRIES: WELLS are laid on others in an order in which each is NEXT to an earlier one if it can be. */
    private static final class Symmetry {
        final int[] order = new int[MOST_WELLS];
        final int[] images = new int[MOST_WELLS];
        final long[] looks = new long[MOST_WELLS];
        final int[] twins = new int[MOST_WELLS];
        Land land;

        int howMany(Land ofLand) {
            begin(ofLand, 0);
            int all = 1;
            for (int i = 0; i < land.wells; i++) {
                all *= Integer.bitCount(places(i));
            }
            return all;
        }

        int placesOf(Land ofLand, int w) {
            begin(ofLand, w);
            return places(0);
        }

        private void begin(Land ofLand, int start) {
            land = ofLand;
            int taken = 0;
            int near = 1 << start;
            for (int i = 0; i < land.wells; i++) {
                int w = lowest((near & ~taken) != 0 ? near & ~taken : ~taken);
                order[i] = w;
                taken |= 1 << w;
                near |= land.next[w];
            }
            for (int v = 0; v < land.wells; v++) {
                looks[v] = look(v);
                twins[v] = twinsOf(v);
            }
        }

        private static int lowest(int bits) {
            for (int w = 0; w < MOST_WELLS - 1; w++) {
                if ((bits >> w & 1) != 0) {
                    return w;
                }
            }
            return MOST_WELLS - 1;
        }

        /** WELLS that can change places with this one while all others stay. */
        private int twinsOf(int v) {
            int found = 0;
            for (int u = 0; u < land.wells; u++) {
                int others = ~(1 << v | 1 << u);
                found |= ((land.next[v] ^ land.next[u]) & others) == 0 ? 1 << u : 0;
            }
            return found;
        }

        /** How many WELLS are how many steps away: unlike looks can't be laid on each other. */
        private long look(int v) {
            long look = 0;
            for (int u = 0; u < land.wells; u++) {
                int way = land.way(v, u);
                look += way < 0 ? 0 : 1L << 4 * way;
            }
            return look;
        }

        /** WELLS on which the one at a level can be laid while all ahead of it lie on themselves. */
        private int places(int level) {
            int used = 0;
            for (int i = 0; i < level; i++) {
                images[i] = order[i];
                used |= 1 << order[i];
            }
            int able = 0;
            int fitting = fitting(level, used);
            for (int w = 0; w < land.wells; w++) {
                if ((fitting >> w & 1) != 0) {
                    images[level] = w;
                    able |= w == order[level] || canGoOn(level + 1, used | 1 << w) ? 1 << w : 0;
                }
            }
            return able;
        }

        private int fitting(int level, int used) {
            int v = order[level];
            int fitting = 0;
            for (int w = 0; w < land.wells; w++) {
                fitting |= looks[v] == looks[w] ? 1 << w : 0;
            }
            fitting &= ~used;
            for (int i = 0; i < level; i++) {
                int near = land.next[images[i]];
                fitting &= land.areNext(v, order[i]) ? near : ~near;
            }
            return fitting;
        }

        private boolean canGoOn(int level, int used) {
            if (level >= land.wells) {
                return true;
            }
            int fitting = fitting(level, used);
            int failed = 0;
            for (int w = 0; w < land.wells; w++) {
                // Where a twin did not do, this one won't: else all orders of many twins would be gone through.
                if ((fitting >> w & 1) != 0 && (failed & twins[w]) == 0) {
                    images[level] = w;
                    if (canGoOn(level + 1, used | 1 << w)) {
                        return true;
                    }
                    failed |= 1 << w;
                }
            }
            return false;
        }
    }
}
