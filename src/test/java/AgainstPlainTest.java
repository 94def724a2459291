import java.util.Random;

/** Long random runs of calls, each answer held against the plain one. */
public final class AgainstPlainTest {
    private static final String[] LANDS = {
        "L1", "L2", "L3", "L4", "L5", "R3", "R4", "R5", "R6", "S2", "S3", "S4", "S5", "S6", "K2", "K3", "K4", "K5", "K6",
        "L2*L2", "L2*L3", "L2*R3", "K3*L2", "R4*L2", "L2*L2*L2", "L2*(L2*L2)", "((L2))", "S4*L2", "K12", "L12", "R12",
        "S12", "K4*K3", "L4*L3", "S3*S3", "L1*L1", "R7", "R8", "L8", "S8", "K8", "L6", "(L2*S3)*L1", "K3*K3", "K9"};

    private final Random random;
    private DesertJars x = new DesertJars();
    private Plain y = new Plain();
    private final StringBuilder run = new StringBuilder();

    private AgainstPlainTest(long seed) {
        random = new Random(seed);
    }

    private int below(int n) {
        return random.nextInt(n);
    }

    private boolean oneIn(int n) {
        return below(n) == 0;
    }

    private void due(String call, int got, int want) {
        run.append(call).append(" = ").append(got).append('\n');
        if (got != want && Desk.wrong == 0) {
            System.out.println(run);
        }
        Desk.due(call, got, want);
    }

    private void due(String call, boolean got, boolean want) {
        due(call, got ? 1 : 0, want ? 1 : 0);
    }

    private int number() {
        switch (below(12)) {
            case 0:
                return random.nextInt();
            case 1:
                return below(50) - 5;
            case 2:
                return below(2) == 0 ? Integer.MIN_VALUE : Integer.MAX_VALUE;
            default:
                return below(Math.max(1, y.next.length) + (oneIn(6) ? 1 : 0));
        }
    }

    private void feed(int... bytes) {
        for (int start = 0; start < bytes.length; start += 20) {
            int[] v = new int[5];
            for (int i = 0; i < 20; i++) {
                v[i / 4] = v[i / 4] << 8 | (start + i < bytes.length ? bytes[start + i] & 255 : below(256));
            }
            due("feed", x.feed(v[0], v[1], v[2], v[3], v[4]), y.feed(v));
        }
    }

    private char well() {
        return (char) ('a' + below(oneIn(25) ? 14 : Math.max(1, y.next.length)));
    }

    private String mutated(String text) {
        if (!oneIn(4) || text.isEmpty()) {
            return text;
        }
        String signs = "LRSK0123456789()*;,-/?>abcdefghijklmnrswxq[]!&|<>=+%. ";
        StringBuilder changed = new StringBuilder(text);
        int where = below(text.length() + 1);
        switch (below(3)) {
            case 0:
                changed.insert(where, signs.charAt(below(signs.length())));
                break;
            case 1:
                changed.deleteCharAt(Math.min(where, text.length() - 1));
                break;
            default:
                changed.setCharAt(Math.min(where, text.length() - 1), signs.charAt(below(signs.length())));
        }
        return changed.toString();
    }

    private String whole(int depth) {
        StringBuilder text = new StringBuilder();
        int parts = 1 + (oneIn(2) ? below(3) : 0);
        for (int i = 0; i < parts; i++) {
            text.append(i > 0 ? "*" : "");
            if (depth < 3 && oneIn(6)) {
                text.append('(').append(whole(depth + 1)).append(')');
            } else {
                int size = oneIn(10) ? below(130) : 1 + below(parts > 1 ? 4 : 8);
                text.append("LRSK".charAt(below(4))).append(size);
            }
        }
        return text.toString();
    }

    private String land() {
        String base = oneIn(3) ? whole(0) : LANDS[below(LANDS.length)];
        StringBuilder text = new StringBuilder(base);
        int lines = oneIn(2) ? 0 : oneIn(8) ? 9 + below(4) : below(4);
        int wells = 1 + below(8);
        for (int i = 0; i < lines; i++) {
            text.append(';').append((char) ('a' + below(wells))).append(oneIn(2) ? '-' : '/')
                .append((char) ('a' + below(wells)));
        }
        return text.toString();
    }

    private String laying() {
        StringBuilder text = new StringBuilder();
        int wells = Math.max(1, y.next.length);
        int most = oneIn(4) ? 45 : oneIn(2) ? 3 : 8;
        int from = below(wells);
        int many = 1 + below(oneIn(2) ? 2 : wells);
        for (int i = 0; i < many; i++) {
            text.append((char) ('a' + (from + i) % wells)).append(below(most));
        }
        return text.toString();
    }

    private String ledger() {
        StringBuilder text = new StringBuilder();
        int lines = 1 + below(oneIn(10) ? 12 : 5);
        int lost = 0;
        for (int i = 0; i < lines; i++) {
            text.append(i > 0 ? ";" : "");
            char from = well();
            char to = well();
            for (int t = 0; t < 20 && y.has(from - 'a') && !(y.has(to - 'a') && y.next[from - 'a'][to - 'a']); t++) {
                to = well();
            }
            if (oneIn(3) && (lost < 2 || oneIn(3))) {
                text.append('?');
                lost++;
            } else {
                text.append(from).append('>').append(to);
            }
        }
        return text.toString();
    }

    private String expression(int depth) {
        StringBuilder text = new StringBuilder();
        int many = 1 + (oneIn(2) ? 0 : below(3));
        for (int i = 0; i < many; i++) {
            if (i > 0) {
                text.append("+-*/%".charAt(below(5)));
            }
            if (depth < 6 && oneIn(8)) {
                text.append('[').append(expression(depth + 1)).append(']');
            } else if (oneIn(2)) {
                text.append(oneIn(6) ? below(120000) : below(12));
            } else {
                text.append("fgnmsqjdw".charAt(below(9)));
            }
        }
        return text.toString();
    }

    private String condition(int depth) {
        StringBuilder text = new StringBuilder();
        int many = 1 + (oneIn(2) ? 0 : below(3));
        for (int i = 0; i < many; i++) {
            if (i > 0) {
                text.append(oneIn(2) ? '&' : '|');
            }
            for (int t = 0; t < 3 && oneIn(4); t++) {
                text.append('!');
            }
            if (depth < 4 && oneIn(5)) {
                text.append('(').append(condition(depth + 1)).append(')');
            } else {
                text.append(expression(depth + 2)).append("<>=".charAt(below(3))).append(expression(depth + 2));
            }
        }
        return text.toString();
    }

    private String law() {
        StringBuilder text = new StringBuilder();
        int many = 1 + below(oneIn(15) ? 18 : 5);
        for (int i = 0; i < many; i++) {
            text.append(i > 0 ? ";" : "");
            char kind = oneIn(10) ? 'x' : "ecr".charAt(below(3));
            text.append(kind);
            if (kind != 'x') {
                text.append(oneIn(3) ? expression(0) : String.valueOf(below(14)));
            }
            text.append('(').append(many > 10 || oneIn(3) ? "1=1" : condition(1)).append(')');
        }
        return text.toString();
    }

    /** A law by which something goes on most days. */
    private String busyLaw() {
        String law = law();
        for (int i = 0; i < 20 && law.length() > 150; i++) {
            law = law();
        }
        String like = new String[] {"9-s", "n+1", "f+g+1", "w+1", "9", "10+n-m", "j%3*5+f"}[below(7)];
        return law + ";e" + like + "(1=1)" + (oneIn(2) ? ";r" + below(9) + "(1=1)" : "");
    }

    private int[] papers(int w, int many) {
        int n = y.next.length;
        int[] bytes = new int[2 * n * many];
        for (int p = 0; p < many; p++) {
            for (int v = 0; v < n; v++) {
                int way = y.steps(v, w);
                int parent = below(n);
                for (int t = 0; t < 40 && way > 0; t++) {
                    if (y.next[v][parent] && y.steps(parent, w) == way - 1) {
                        break;
                    }
                    parent = below(n);
                }
                bytes[2 * (p * n + v)] = oneIn(40) ? below(256) : parent;
                bytes[2 * (p * n + v) + 1] = oneIn(30) ? below(256) : way < 0 ? 0 : 128 >> Math.min(7, way);
            }
        }
        return bytes;
    }

    /** The plain way is too slow for some; these the class is asked all the same. */
    private boolean small() {
        return y.next.length <= 6 || y.next.length <= 8 && y.sum() <= 7;
    }

    private void text(String text, int kind, int what) {
        feed(Desk.bytes(text));
        int n = oneIn(25) ? below(80) : text.length();
        switch (kind) {
            case 0:
                due("land " + text + " " + n, x.land(n), y.land(n));
                break;
            case 1:
                due("laying " + text + " " + n, x.laying(n), y.laying(n));
                break;
            case 2:
                due("law " + text + " " + n, x.law(n), y.law(n));
                break;
            case 3:
                due("ledger " + text + " " + n + " " + what, x.ledger(n, what), y.ledger(n, what));
                break;
            default:
                due("product " + text + " " + n, x.product(n), y.product(n));
        }
    }

    private void texts() {
        switch (below(11)) {
            case 0:
            case 1:
                text(mutated(land()), 0, 0);
                break;
            case 2:
            case 3:
            case 4:
                text(mutated(laying()), 1, 0);
                break;
            case 5:
                text(mutated(law()), 2, 0);
                break;
            case 6:
                text(busyLaw(), 2, 0);
                busyDays();
                break;
            case 7:
            case 8:
            case 9:
                String ledger = mutated(ledger());
                int lost = ledger.length() - ledger.replace("?", "").length();
                if (lost < 3 || y.count(2) < 20) {
                    text(ledger, 3, oneIn(15) ? number() : below(3));
                }
                break;
            default:
                if (oneIn(4)) {
                    String a = oneIn(2) ? whole(0) : LANDS[below(12)];
                    String b = oneIn(2) ? whole(0) : LANDS[below(12)];
                    text(mutated(a + "," + b), 4, 0);
                }
        }
    }

    private void busyDays() {
        text(laying(), 1, 0);
        for (int n = 1; n < 8; n++) {
            for (int what = 0; what < 3; what++) {
                due("tried " + n + " " + what, x.tried(n, what), y.tried(n, what));
            }
        }
        due("keep", x.keep(), y.keep());
        due("days", x.days(3), y.days(3));
        all();
    }

    /** All that can be asked of MOVES from one laying. */
    private void moves() {
        text(laying(), 1, 0);
        if (!small()) {
            return;
        }
        for (int w = 0; w < y.next.length; w++) {
            due("robbers " + w, x.robbers(w), y.robbers(w));
            for (int k = 1; k < 4; k++) {
                due("reach " + w + " " + k, x.reach(w, k, false, 0), y.reach(w, k, false, 0));
                due("reach by " + w + " " + k, x.reach(w, k, false, 1), y.reach(w, k, false, 1));
                due("reach both " + w + " " + k, x.reach(w, k, true, 0), y.reach(w, k, true, 0));
                due("reach both by " + w + " " + k, x.reach(w, k, true, 1), y.reach(w, k, true, 1));
            }
        }
    }

    private void lostLines() {
        text(laying(), 1, 0);
        String ledger = ledger();
        int lost = ledger.length() - ledger.replace("?", "").length();
        if (lost < 3 || y.count(2) < 20) {
            text(ledger, 3, 0);
            text(ledger, 3, 1);
            text(ledger, 3, 2);
        }
    }

    private void small(int which) {
        int w = number();
        int v = number();
        switch (which) {
            case 0:
                int jars = oneIn(2) ? below(6) : number();
                due("room " + w + " " + jars, x.room(w, jars), y.room(w, jars));
                break;
            case 1:
                due("queen " + w, x.queen(w), y.queen(w));
                break;
            case 2:
                int seed = oneIn(5) ? random.nextInt() : below(65537);
                due("seed " + seed, x.seed(seed), y.seed(seed));
                break;
            case 3:
                int days = oneIn(6) ? number() : 1 + below(6);
                due("days " + days, x.days(days), y.days(days));
                break;
            case 4:
                int trial = oneIn(6) ? number() : 1 + below(9);
                int what = oneIn(6) ? number() : oneIn(2) ? below(3) : 10 + w;
                due("tried " + trial + " " + what, x.tried(trial, what), y.tried(trial, what));
                break;
            case 5:
                due("steps " + w + " " + v, x.steps(w, v), y.steps(w, v));
                break;
            case 6:
                due("keep", x.keep(), y.keep());
                break;
            case 7:
                due("undo", x.undo(), y.undo());
                break;
            default:
                due("atOnce", x.atOnce(), y.atOnce());
        }
    }

    private void large(int which) {
        int w = number();
        int what = oneIn(3) ? number() : 100 + below(2);
        switch (which) {
            case 0:
                int k = oneIn(3) ? number() : 1 + below(3);
                boolean both = oneIn(2);
                int told = oneIn(9) ? number() : below(2);
                if (small() || y.sum() > 12) {
                    due("reach " + w + " " + k + " " + both + " " + told, x.reach(w, k, both, told),
                        y.reach(w, k, both, told));
                } else {
                    x.reach(w, k, both, told);
                }
                break;
            case 1:
                due("number " + w + " " + what, x.number(w, what), y.number(w, what));
                break;
            case 2:
                int it = oneIn(6) ? number() : below(2);
                due("landNumber " + it, x.landNumber(it), y.landNumber(it));
                break;
            case 3:
                due("fewest " + what, x.fewest(what), y.fewest(what));
                break;
            case 4:
                if (small() || y.sum() > 12) {
                    due("robbers " + w, x.robbers(w), y.robbers(w));
                } else {
                    x.robbers(w);
                }
                break;
            case 5:
                if (y.next.length <= 8) {
                    due("symmetries " + what, x.symmetries(what), y.symmetries(what));
                } else {
                    x.symmetries(what);
                }
                break;
            case 6:
                int of = y.has(w) ? w : 0;
                feed(papers(of, 1));
                due("paper " + w, x.paper(w), y.paper(w));
                break;
            default:
                int many = oneIn(9) ? number() : 1 + below(4);
                feed(papers(y.has(w) ? w : 0, Math.max(1, Math.min(4, many))));
                due("joined " + w + " " + many, x.joined(w, many), y.joined(w, many));
        }
    }

    /** All that can be asked of a land alone, of many small ones. */
    private void lands() {
        String[] bases = {"K6", "K7", "L6", "L7", "R6", "S6", "S7", "L2*L3", "K3*L2", "R7", "K4", "K5", "R5", "L8", "R8", "L2*L4"};
        StringBuilder text = new StringBuilder(bases[below(bases.length)]);
        int wells = Desk.land(new DesertJars(), text.toString());
        int lines = below(11);
        for (int i = 0; i < lines; i++) {
            int p = below(wells);
            int q = (p + 1 + below(wells - 1)) % wells;
            text.append(';').append((char) ('a' + p)).append(oneIn(2) ? '-' : '/').append((char) ('a' + q));
        }
        text(text.toString(), 0, 0);
        due("atOnce", x.atOnce(), y.atOnce());
        for (int w = -1; w <= wells; w++) {
            int what = w < 0 ? 100 : w == wells ? 101 : w;
            due("symmetries " + what, x.symmetries(what), y.symmetries(what));
            due("fewest " + what, x.fewest(what), y.fewest(what));
        }
        if (oneIn(4)) {
            due("landNumber", x.landNumber(0), y.landNumber(0));
            due("landNumber's well", x.landNumber(1), y.landNumber(1));
            for (int w = 0; w < wells; w++) {
                due("number " + w, x.number(w, 101), y.number(w, 101));
                due("number's row " + w, x.number(w, wells - 1 - w), y.number(w, wells - 1 - w));
            }
        }
    }

    private void all() {
        for (int w = 0; w < 13; w++) {
            for (int what = 0; what < 5; what++) {
                due("wellIs " + w + " " + what, x.wellIs(w, what), y.wellIs(w, what));
            }
        }
        for (int what = -1; what < 10; what++) {
            due("count " + what, x.count(what), y.count(what));
        }
    }

    private void checks() {
        int n = oneIn(8) ? number() : below(13);
        int[] bytes = new int[12];
        for (int i = 0; i < 12; i++) {
            bytes[i] = oneIn(15) ? below(256) : y.has(i) ? y.jars[i] : 255;
        }
        if (!oneIn(10)) {
            feed(bytes);
        }
        due("check " + n, x.check(n), y.check(n));
    }

    private void go(int calls) {
        lands();
        lands();
        text(LANDS[below(LANDS.length)], 0, 0);
        for (int i = 0; i < calls; i++) {
            int kind = below(14);
            if (kind == 13) {
                moves();
            } else if (kind == 12) {
                lostLines();
            } else if (kind < 4) {
                texts();
            } else if (kind < 8) {
                small(below(9));
            } else if (kind < 11) {
                large(below(8));
            } else {
                checks();
            }
            if (oneIn(3)) {
                all();
            }
        }
    }

    public static void main(String[] args) {
        int runs = args.length > 0 ? Integer.parseInt(args[0]) : 300;
        int from = args.length > 1 ? Integer.parseInt(args[1]) : 1;
        for (int seed = from; seed < from + runs; seed++) {
            new AgainstPlainTest(seed).go(80);
        }
        Desk.close("AgainstPlainTest");
    }
}
