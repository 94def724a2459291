import java.util.ArrayDeque;
import java.util.ArrayList;
import java.util.Arrays;
import java.util.HashMap;
import java.util.List;
import java.util.Map;
import java.util.TreeMap;

/**
 * The document once more, in the plainest way and without care for speed: what the class is held against.
 * It shares no code and few ideas with the class.
 */
final class Plain {
    static final class Fault extends Exception {
        private static final long serialVersionUID = 1L;
        final int code;

        Fault(int kind, int place) {
            super(null, null, false, false);
            code = -1000 * kind - place;
        }
    }

    static final class Refused extends Exception {
        private static final long serialVersionUID = 1L;

        Refused() {
            super(null, null, false, false);
        }
    }

    boolean[][] next = new boolean[0][0];
    int[] jars = new int[12];
    int[] room = filled(40);
    int queen = 0;
    int day = 0;
    int x = 1;
    String law = "";
    int rules = 0;
    List<Integer> tape = new ArrayList<>();
    Object[] kept = null;

    static int[] filled(int with) {
        int[] row = new int[12];
        Arrays.fill(row, with);
        return row;
    }

    boolean has(int w) {
        return w >= 0 && w < next.length;
    }

    int sum() {
        return Arrays.stream(jars).sum();
    }

    // ---- the small calls

    boolean room(int w, int n) {
        if (!has(w) || n < 0 || n > 40) {
            return false;
        }
        room[w] = n;
        return true;
    }

    boolean queen(int w) {
        if (has(w)) {
            queen = w;
        }
        return has(w);
    }

    int feed(int... five) {
        if (tape.size() > 240) {
            return -1;
        }
        for (int four : five) {
            for (int i = 3; i >= 0; i--) {
                tape.add(four >> 8 * i & 255);
            }
        }
        return tape.size();
    }

    /** The first n bytes as a text, the tape being empty then; null if there are not so many. */
    private String take(int n, int least, int most) {
        if (n < least || n > most || n > tape.size()) {
            return null;
        }
        StringBuilder text = new StringBuilder();
        for (int i = 0; i < n; i++) {
            text.append((char) (int) tape.get(i));
        }
        tape.clear();
        return text.toString();
    }

    int wellIs(int w, int what) {
        if (!has(w) || what < 0 || what > 3) {
            return -1;
        }
        int bits = 0;
        for (int v = 0; v < next.length; v++) {
            bits += next[w][v] ? 1 << v : 0;
        }
        return new int[] {jars[w], room[w], bits, way(next, w, queen)}[what];
    }

    static int way(boolean[][] next, int p, int q) {
        int[] far = new int[next.length];
        Arrays.fill(far, -2);
        ArrayDeque<Integer> open = new ArrayDeque<>();
        far[p] = 0;
        open.add(p);
        while (!open.isEmpty()) {
            int at = open.remove();
            for (int v = 0; v < next.length; v++) {
                if (next[at][v] && far[v] < 0) {
                    far[v] = far[at] + 1;
                    open.add(v);
                }
            }
        }
        return far[q];
    }

    int steps(int p, int q) {
        return has(p) && has(q) ? way(next, p, q) : -1;
    }

    int count(int what) {
        int stages = 0;
        int widest = 0;
        boolean apart = false;
        for (int p = 0; p < next.length; p++) {
            for (int q = 0; q < p; q++) {
                stages += next[p][q] ? 1 : 0;
                apart |= way(next, p, q) < 0;
                widest = Math.max(widest, way(next, p, q));
            }
        }
        if (what < 0 || what > 8) {
            return -1;
        }
        return new int[] {day, next.length, stages, sum(), queen, rules, tape.size(), x, apart ? -2 : widest}[what];
    }

    boolean seed(int s) {
        if (s < 0 || s > 65535) {
            return false;
        }
        x = s;
        return true;
    }

    int keep() {
        kept = new Object[] {jars.clone(), room.clone(), queen, day, x};
        return day;
    }

    boolean undo() {
        if (kept == null) {
            return false;
        }
        jars = ((int[]) kept[0]).clone();
        room = ((int[]) kept[1]).clone();
        for (int w = next.length; w < 12; w++) {
            jars[w] = 0;
        }
        queen = has((Integer) kept[2]) ? (Integer) kept[2] : 0;
        day = (Integer) kept[3];
        x = (Integer) kept[4];
        return true;
    }

    int check(int n) {
        String text = take(n, 0, 12);
        if (text == null) {
            return -2;
        }
        for (int i = 0; i < n; i++) {
            if (text.charAt(i) != (has(i) ? jars[i] : 255)) {
                return i;
            }
        }
        return -1;
    }

    // ---- lands

    private String text;
    private int at;

    private char sign() {
        return at < text.length() ? text.charAt(at) : 0xFFFF;
    }

    private char one(String of) throws Fault {
        if (of.indexOf(sign()) < 0) {
            throw new Fault(1, at);
        }
        return text.charAt(at++);
    }

    private int digits(int most) throws Fault {
        int from = at;
        one("0123456789");
        while ("0123456789".indexOf(sign()) >= 0) {
            if (at - from == most) {
                throw new Fault(2, at);
            }
            at++;
        }
        return Integer.parseInt(text.substring(from, at));
    }

    private boolean[][] part(int open) throws Fault {
        char kind = one("LRSK(");
        if (kind == '(') {
            if (open == 2) {
                throw new Fault(5, at - 1);
            }
            boolean[][] inner = whole(open + 1);
            one(")");
            return inner;
        }
        int from = at;
        int n = digits(2);
        if (n > 12 || n < 1 || kind == 'R' && n < 3 || kind == 'S' && n < 2) {
            throw new Fault(3, from);
        }
        boolean[][] land = new boolean[n][n];
        for (int p = 0; p < n; p++) {
            for (int q = 0; q < n; q++) {
                int apart = Math.abs(p - q);
                land[p][q] = p != q && (kind == 'K' || kind == 'S' && p * q == 0
                    || kind == 'L' && apart == 1 || kind == 'R' && (apart == 1 || apart == n - 1));
            }
        }
        return land;
    }

    static boolean[][] times(boolean[][] a, boolean[][] b) {
        int n = b.length;
        boolean[][] land = new boolean[a.length * n][a.length * n];
        for (int p = 0; p < land.length; p++) {
            for (int q = 0; q < land.length; q++) {
                land[p][q] = p / n == q / n && b[p % n][q % n] || p % n == q % n && a[p / n][q / n];
            }
        }
        return land;
    }

    private boolean[][] whole(int open) throws Fault {
        boolean[][] land = part(open);
        while (sign() == '*') {
            at++;
            int from = at;
            boolean[][] more = part(open);
            if (land.length * more.length > 12) {
                throw new Fault(6, from);
            }
            land = times(land, more);
        }
        return land;
    }

    private int well(int wells) throws Fault {
        int w = one("abcdefghijkl") - 'a';
        if (w >= wells) {
            throw new Fault(7, at - 1);
        }
        return w;
    }

    int land(int n) {
        String taken = take(n, 1, 60);
        if (taken == null) {
            return -1;
        }
        text = taken;
        at = 0;
        try {
            boolean[][] land = whole(0);
            int lines = 0;
            while (at < text.length()) {
                one(";");
                if (lines == 10 && "abcdefghijkl".indexOf(sign()) >= 0) {
                    throw new Fault(4, at);
                }
                int p = well(land.length);
                boolean join = one("-/") == '-';
                int q = well(land.length);
                if (p == q) {
                    throw new Fault(8, at - 1);
                }
                land[p][q] = join;
                land[q][p] = join;
                lines++;
            }
            next = land;
            jars = new int[12];
            room = filled(40);
            queen = 0;
            return land.length;
        } catch (Fault fault) {
            return fault.code;
        }
    }

    int laying(int n) {
        String taken = take(n, 1, 60);
        if (taken == null) {
            return -1;
        }
        text = taken;
        at = 0;
        try {
            int[] laid = filled(-1);
            do {
                int w = well(next.length);
                if (laid[w] >= 0) {
                    throw new Fault(6, at - 1);
                }
                int from = at;
                laid[w] = digits(2);
                if (laid[w] > 40) {
                    throw new Fault(3, from);
                }
            } while (at < text.length());
            for (int w = 0; w < 12; w++) {
                jars[w] = Math.max(0, laid[w]);
            }
            return sum();
        } catch (Fault fault) {
            return fault.code;
        }
    }

    // ---- THE LAW: asked from its text each time; what need not be asked is read over

    private final Map<Character, Integer> given = new HashMap<>();

    private int factor(int open, boolean ask) throws Fault, Refused {
        if (sign() == '[') {
            if (open == 6) {
                throw new Fault(5, at);
            }
            at++;
            int value = sum(open + 1, ask);
            one("]");
            return value;
        }
        if ("0123456789".indexOf(sign()) >= 0) {
            return digits(5);
        }
        return given.getOrDefault(one("fgnmsqjdw"), 0);
    }

    private int term(int open, boolean ask) throws Fault, Refused {
        int value = factor(open, ask);
        while ("*/%".indexOf(sign()) >= 0) {
            char by = text.charAt(at++);
            int other = factor(open, ask);
            if (!ask) {
                continue;
            }
            if (by != '*' && other == 0) {
                throw new Refused();
            }
            value = by == '*' ? value * other : by == '/' ? value / other : value % other;
        }
        return value;
    }

    private int sum(int open, boolean ask) throws Fault, Refused {
        int value = term(open, ask);
        while ("+-".indexOf(sign()) >= 0) {
            value = text.charAt(at++) == '+' ? value + term(open, ask) : value - term(open, ask);
        }
        return value;
    }

    private boolean test(int open, boolean ask) throws Fault, Refused {
        if (sign() == '!' || sign() == '(') {
            if (open == 6) {
                throw new Fault(5, at);
            }
            if (text.charAt(at++) == '!') {
                return !test(open + 1, ask);
            }
            boolean holds = choice(open + 1, ask);
            one(")");
            return holds;
        }
        int left = sum(open, ask);
        char how = one("<>=");
        int right = sum(open, ask);
        return how == '<' ? left < right : how == '>' ? left > right : left == right;
    }

    private boolean choice(int open, boolean ask) throws Fault, Refused {
        boolean any = false;
        do {
            boolean all = true;
            do {
                boolean matters = ask && !any && all;
                if (!test(open, matters) && matters) {
                    all = false;
                }
            } while (more('&'));
            any = any || ask && all;
        } while (more('|'));
        return any;
    }

    private boolean more(char by) {
        boolean is = sign() == by;
        at += is ? 1 : 0;
        return is;
    }

    int law(int n) {
        String taken = take(n, 1, 240);
        if (taken == null) {
            return -1;
        }
        text = taken;
        at = 0;
        int read = 0;
        try {
            do {
                if (read == 16 && "ecrx".indexOf(sign()) >= 0) {
                    throw new Fault(4, at);
                }
                if (one("ecrx") != 'x') {
                    sum(0, false);
                }
                one("(");
                choice(1, false);
                one(")");
                read++;
                if (at < text.length()) {
                    one(";");
                    if (at == text.length()) {
                        throw new Fault(1, at);
                    }
                }
            } while (at < text.length());
        } catch (Fault fault) {
            return fault.code;
        } catch (Refused never) {
            throw new IllegalStateException(never);
        }
        law = text;
        rules = read;
        return rules;
    }

    /** The E of the first RULE of a kind whose C holds (1 for an x); null if there is none. */
    private Integer ask(char kind) {
        if (rules == 0) {
            return null;
        }
        try {
            for (String rule : law.split(";")) {
                if (rule.charAt(0) != kind) {
                    continue;
                }
                text = rule;
                at = 1;
                int worth = 1;
                if (kind != 'x') {
                    try {
                        worth = sum(0, true);
                    } catch (Refused refused) {
                        worth = 0;
                    }
                    at = rule.indexOf('(');
                }
                at++;
                try {
                    if (choice(1, true)) {
                        return worth;
                    }
                } catch (Refused refused) {
                    continue;
                }
            }
        } catch (Fault never) {
            throw new IllegalStateException(never);
        }
        return null;
    }

    private int draw() {
        x = (int) ((25173L * x + 13849L) % 65536L);
        return x % 10;
    }

    private void give(String letters, int... values) {
        for (int i = 0; i < values.length; i++) {
            given.put(letters.charAt(i), values[i]);
        }
    }

    private int toQueen(int w) {
        int way = way(next, w, queen);
        return way < 0 ? 99 : way;
    }

    private static int within(Integer value, int without, int least, int most) {
        return value == null ? without : Math.max(least, Math.min(most, value));
    }

    /** One DAY: stages gone, JARS robbed. */
    private int[] oneDay() {
        int[] told = new int[2];
        give("qjdw", queen, sum(), day % 100, draw());
        give("fgnms", 0, 0, 0, 0, 0);
        if (ask('x') == null) {
            int[] best = null;
            for (int f = 0; f < next.length; f++) {
                for (int g = 0; g < next.length; g++) {
                    if (!next[f][g] || jars[g] >= room[g]) {
                        continue;
                    }
                    give("fgnms", f, g, jars[f], jars[g], toQueen(g));
                    int cost = within(ask('c'), 2, 2, 9);
                    int like = within(ask('e'), 0, 0, 9999);
                    if (jars[f] >= cost && like > 0 && (best == null || like > best[3])) {
                        best = new int[] {f, g, cost, like};
                    }
                }
            }
            if (best != null) {
                jars[best[0]] -= best[2];
                jars[best[1]]++;
                told[0]++;
            }
        }
        for (int w = 0; w < next.length; w++) {
            if (jars[w] > 0) {
                give("fgnmsj", w, 0, jars[w], 0, toQueen(w), sum());
                int tenths = within(ask('r'), 0, 0, 10);
                if (draw() < tenths) {
                    jars[w]--;
                    told[1]++;
                }
            }
        }
        day++;
        return told;
    }

    private int[] pass(int n) {
        int[] told = new int[2];
        for (int i = 0; i < n && day < 9999; i++) {
            int[] more = oneDay();
            told[0] += more[0];
            told[1] += more[1];
        }
        return told;
    }

    int days(int n) {
        return n < 1 || n > 100 ? -1 : pass(n)[0];
    }

    int tried(int n, int what) {
        if (n < 1 || n > 100 || !(what >= 0 && what <= 2 || what >= 10 && has(what - 10))) {
            return -1;
        }
        Object[] before = kept;
        keep();
        int[] told = pass(n);
        int answer = what < 2 ? told[what] : what == 2 ? sum() : jars[what - 10];
        undo();
        kept = before;
        return answer;
    }

    // ---- MOVES

    /** All layings one MOVE away, in the order of the document; with them the MOVES as told. */
    private static List<int[]> moves(boolean[][] next, int[] row, boolean both, List<Integer> told) {
        List<int[]> all = new ArrayList<>();
        for (int a = 0; a < next.length; a++) {
            for (int c = 0; c < next.length; c++) {
                if (next[a][c] && row[a] >= 2) {
                    int[] to = row.clone();
                    to[a] -= 2;
                    to[c]++;
                    all.add(to);
                    told.add(256 * a + 16 * a + c);
                }
            }
        }
        for (int a = 0; both && a < next.length; a++) {
            for (int b = a + 1; b < next.length; b++) {
                for (int c = 0; c < next.length; c++) {
                    if (next[a][c] && next[b][c] && row[a] >= 1 && row[b] >= 1) {
                        int[] to = row.clone();
                        to[a]--;
                        to[b]--;
                        to[c]++;
                        all.add(to);
                        told.add(256 * a + 16 * b + c);
                    }
                }
            }
        }
        return all;
    }

    /** Fewest MOVES from a row, 1000 if it can't be. */
    private static int fewest(boolean[][] next, int[] row, int w, int k, boolean both, Map<String, Integer> known) {
        if (row[w] >= k) {
            return 0;
        }
        String key = Arrays.toString(row);
        Integer before = known.get(key);
        if (before != null) {
            return before;
        }
        int best = 1000;
        for (int[] to : moves(next, row, both, new ArrayList<>())) {
            best = Math.min(best, 1 + fewest(next, to, w, k, both, known));
        }
        best = Math.min(best, 1000);
        known.put(key, best);
        return best;
    }

    int reach(int w, int k, boolean both, int what) {
        if (!has(w) || k < 1 || k > 40 || what < 0 || what > 1) {
            return -1;
        }
        if (next.length > 8 || sum() > 12) {
            return -4;
        }
        Map<String, Integer> known = new HashMap<>();
        int least = fewest(next, jars, w, k, both, known);
        if (least >= 1000) {
            return -2;
        }
        if (what == 0) {
            return least;
        }
        if (least == 0) {
            return -3;
        }
        List<Integer> told = new ArrayList<>();
        List<int[]> all = moves(next, jars, both, told);
        for (int i = 0; i < all.size(); i++) {
            if (fewest(next, all.get(i), w, k, both, known) == least - 1) {
                return told.get(i);
            }
        }
        throw new IllegalStateException();
    }

    /** All rows of so many JARS, the greatest first. */
    static void rows(int wells, int sum, int[] row, int at, List<int[]> all) {
        if (at == wells - 1) {
            row[at] = sum;
            all.add(row.clone());
            row[at] = 0;
            return;
        }
        for (int here = sum; here >= 0; here--) {
            row[at] = here;
            rows(wells, sum - here, row, at + 1, all);
        }
        row[at] = 0;
    }

    private static final Map<String, int[]> NUMBERS = new HashMap<>();

    /** THE NUMBER, layings, then the greatest row; or one that tells why not. What was asked before is not asked anew. */
    static int[] numberOf(boolean[][] next, int w) {
        return NUMBERS.computeIfAbsent(Arrays.deepToString(next) + w, key -> newNumberOf(next, w));
    }

    private static int[] newNumberOf(boolean[][] next, int w) {
        int far = 0;
        for (int v = 0; v < next.length; v++) {
            if (way(next, v, w) < 0) {
                return new int[] {-2};
            }
            far += way(next, v, w);
        }
        if (far > 16) {
            return new int[] {-4};
        }
        return far <= 7 ? numberByRows(next, w) : numberByPiles(next, w);
    }

    /** Every row of so many JARS is asked by MOVES, till none is IN VAIN. */
    static int[] numberByRows(boolean[][] next, int w) {
        Map<String, Integer> known = new HashMap<>();
        int[] answer = null;
        for (int sum = 0;; sum++) {
            List<int[]> all = new ArrayList<>();
            rows(next.length, sum, new int[next.length], 0, all);
            int count = 0;
            int[] greatest = null;
            for (int[] row : all) {
                if (row[w] == 0 && fewest(next, row, w, 1, false, known) >= 1000) {
                    count++;
                    greatest = greatest == null ? row : greatest;
                }
            }
            if (count == 0) {
                return answer;
            }
            answer = new int[2 + next.length];
            answer[0] = sum + 1;
            answer[1] = count;
            System.arraycopy(greatest, 0, answer, 2, next.length);
        }
    }

    /** Every laying with less than 2 to the steps at each WELL is asked by MOVES. */
    static int[] numberByPiles(boolean[][] next, int w) {
        int all = 1;
        for (int v = 0; v < next.length; v++) {
            all <<= way(next, v, w);
        }
        byte[] known = new byte[all];
        int[] answer = new int[2 + next.length];
        for (int code = 0; code < all; code++) {
            int[] row = new int[next.length];
            int rest = code;
            int sum = 0;
            for (int v = next.length - 1; v >= 0; v--) {
                row[v] = rest % (1 << way(next, v, w));
                rest /= 1 << way(next, v, w);
                sum += row[v];
            }
            if (sum + 1 < answer[0] || comes(next, row, w, known)) {
                continue;
            }
            answer[1] = sum + 1 > answer[0] ? 1 : answer[1] + 1;
            answer[0] = sum + 1;
            System.arraycopy(row, 0, answer, 2, next.length);
        }
        return answer;
    }

    private static boolean comes(boolean[][] next, int[] row, int w, byte[] known) {
        int code = 0;
        for (int v = 0; v < next.length; v++) {
            int pile = 1 << way(next, v, w);
            if (row[v] >= pile) {
                return true;
            }
            code = code * pile + row[v];
        }
        if (known[code] == 0) {
            known[code] = 1;
            for (int[] to : moves(next, row, false, new ArrayList<>())) {
                if (comes(next, to, w, known)) {
                    known[code] = 2;
                    break;
                }
            }
        }
        return known[code] == 2;
    }

    int number(int w, int what) {
        if (!has(w) || !has(what) && what != 100 && what != 101) {
            return -1;
        }
        int[] told = numberOf(next, w);
        return told.length == 1 ? told[0] : what >= 100 ? told[what - 100] : told[2 + what];
    }

    static int[] landNumberOf(boolean[][] next) {
        int[] best = {0, 0};
        for (int w = 0; w < next.length; w++) {
            int told = numberOf(next, w)[0];
            if (told < 0) {
                return new int[] {told, told};
            }
            best = told > best[0] ? new int[] {told, w} : best;
        }
        return best;
    }

    int landNumber(int what) {
        if (what != 0 && what != 1) {
            return -1;
        }
        return next.length == 0 ? -3 : landNumberOf(next)[what];
    }

    int fewest(int what) {
        if (!has(what) && what != 100 && what != 101) {
            return -1;
        }
        if (next.length == 0 || next.length > 7) {
            return next.length == 0 ? -3 : -4;
        }
        for (int sum = 1;; sum++) {
            List<int[]> all = new ArrayList<>();
            rows(next.length, sum, new int[next.length], 0, all);
            List<int[]> good = new ArrayList<>();
            for (int[] row : all) {
                boolean each = true;
                for (int w = 0; each && w < next.length; w++) {
                    each = fewest(next, row, w, 1, false, new HashMap<>()) < 1000;
                }
                if (each) {
                    good.add(row);
                }
            }
            if (!good.isEmpty()) {
                return what == 100 ? sum : what == 101 ? good.size() : good.get(0)[what];
            }
        }
    }

    int atOnce() {
        int most = 0;
        for (int p = 0; p < next.length; p++) {
            int sum = 0;
            for (int q = 0; q < next.length; q++) {
                if (way(next, p, q) < 0) {
                    return -2;
                }
                sum += (int) Math.pow(2, way(next, p, q));
            }
            most = Math.max(most, sum);
        }
        return next.length == 0 ? -3 : most;
    }

    // ---- papers

    private int wrongWell(String paper, int w) {
        for (int v = 0; v < next.length; v++) {
            int parent = paper.charAt(2 * v);
            int weight = paper.charAt(2 * v + 1);
            if (v == w || weight == 0) {
                continue;
            }
            boolean right = has(parent) && next[parent][v]
                && (parent == w || paper.charAt(2 * parent + 1) != 0 && weight <= paper.charAt(2 * parent + 1) / 2.0);
            if (!right) {
                return v;
            }
        }
        return -1;
    }

    int paper(int w) {
        if (!has(w)) {
            return -1;
        }
        String paper = take(2 * next.length, 0, 24);
        if (paper == null) {
            return -1;
        }
        if (wrongWell(paper, w) >= 0) {
            return -2 - wrongWell(paper, w);
        }
        int sum = 0;
        for (int v = 0; v < next.length; v++) {
            sum += v == w ? 0 : paper.charAt(2 * v + 1);
        }
        return sum;
    }

    int joined(int w, int papers) {
        if (!has(w) || papers < 1 || papers > 4) {
            return -1;
        }
        int size = 2 * next.length;
        String all = take(papers * size, 0, 96);
        if (all == null) {
            return -1;
        }
        int[] weights = new int[next.length];
        for (int i = 0; i < papers; i++) {
            String paper = all.substring(i * size, i * size + size);
            if (wrongWell(paper, w) >= 0) {
                return -2 - wrongWell(paper, w);
            }
            for (int v = 0; v < next.length; v++) {
                weights[v] += paper.charAt(2 * v + 1);
            }
        }
        int sum = 0;
        int least = 1 << 20;
        for (int v = 0; v < next.length; v++) {
            if (v != w) {
                sum += weights[v];
                least = Math.min(least, weights[v]);
            }
        }
        return least == 0 ? -100 : sum / least + 1;
    }

    int product(int n) {
        String taken = take(n, 1, 60);
        if (taken == null) {
            return -1;
        }
        text = taken;
        at = 0;
        try {
            boolean[][] a = whole(0);
            one(",");
            int from = at;
            boolean[][] b = whole(0);
            if (a.length * b.length > 12) {
                throw new Fault(6, from);
            }
            if (at < text.length()) {
                throw new Fault(1, at);
            }
            int first = landNumberOf(a)[0];
            int second = landNumberOf(b)[0];
            int both = landNumberOf(times(a, b))[0];
            return first < 0 || second < 0 || both < 0 ? 1000000 : first * second - both;
        } catch (Fault fault) {
            return fault.code;
        }
    }

    /** The game itself: all MOVES of carriers, all that the robber may take. */
    private boolean carriersWin(int[] row, int w, Map<String, Boolean> known) {
        if (row[w] > 0) {
            return true;
        }
        if (Arrays.stream(row).sum() == 0) {
            return false;
        }
        String key = Arrays.toString(row);
        if (known.containsKey(key)) {
            return known.get(key);
        }
        List<int[]> options = moves(next, row, false, new ArrayList<>());
        options.add(row);
        boolean win = false;
        for (int[] to : options) {
            boolean all = true;
            for (int v = 0; all && to[w] == 0 && v < next.length; v++) {
                if (to[v] > 0) {
                    int[] left = to.clone();
                    left[v]--;
                    all = carriersWin(left, w, known);
                }
            }
            win = win || all;
        }
        known.put(key, win);
        return win;
    }

    int robbers(int w) {
        if (!has(w)) {
            return -1;
        }
        if (next.length > 8 || sum() > 12) {
            return -4;
        }
        return carriersWin(jars.clone(), w, new TreeMap<>()) ? 1 : 0;
    }

    // ---- ledgers

    private void goLines(List<int[]> lines, int from, int[] row, int[] told) {
        if (from == lines.size()) {
            told[1] = told[0] == 0 ? row[queen] : Math.min(told[1], row[queen]);
            told[2] = told[0] == 0 ? row[queen] : Math.max(told[2], row[queen]);
            told[0]++;
            return;
        }
        int[] line = lines.get(from);
        for (int p = 0; p < next.length; p++) {
            for (int q = 0; q < next.length; q++) {
                if (next[p][q] && row[p] >= 2 && (line == null || line[0] == p && line[1] == q)) {
                    row[p] -= 2;
                    row[q]++;
                    goLines(lines, from + 1, row, told);
                    row[p] += 2;
                    row[q]--;
                }
            }
        }
    }

    int ledger(int n, int what) {
        if (what < 0 || what > 2) {
            return -1;
        }
        String taken = take(n, 1, 60);
        if (taken == null) {
            return -1;
        }
        text = taken;
        at = 0;
        List<int[]> lines = new ArrayList<>();
        int lost = 0;
        try {
            while (true) {
                if (lines.size() == 10 && "?abcdefghijkl".indexOf(sign()) >= 0) {
                    throw new Fault(4, at);
                }
                if (sign() == '?') {
                    if (lost == 3) {
                        throw new Fault(5, at);
                    }
                    at++;
                    lost++;
                    lines.add(null);
                } else {
                    int p = well(next.length);
                    one(">");
                    int q = well(next.length);
                    if (!next[p][q]) {
                        throw new Fault(8, at - 1);
                    }
                    lines.add(new int[] {p, q});
                }
                if (at == text.length()) {
                    break;
                }
                one(";");
            }
        } catch (Fault fault) {
            return fault.code;
        }
        int[] told = new int[3];
        goLines(lines, 0, jars.clone(), told);
        return what > 0 && told[0] == 0 ? -2 : told[what];
    }

    // ---- symmetries: every one of them is made

    private void lay(int[] images, int at, int used, int[] told, int of) {
        if (at == next.length) {
            told[0]++;
            told[1] |= 1 << images[of];
            return;
        }
        for (int w = 0; w < next.length; w++) {
            boolean fits = (used >> w & 1) == 0;
            for (int i = 0; fits && i < at; i++) {
                fits = next[i][at] == next[images[i]][w];
            }
            if (fits) {
                images[at] = w;
                lay(images, at + 1, used | 1 << w, told, of);
            }
        }
    }

    int symmetries(int what) {
        if (what != 100 && !has(what)) {
            return -1;
        }
        if (next.length == 0) {
            return 1;
        }
        int[] told = new int[2];
        lay(new int[12], 0, 0, told, what == 100 ? 0 : what);
        return told[what == 100 ? 0 : 1];
    }
}
