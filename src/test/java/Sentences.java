import java.io.IOException;
import java.nio.file.Files;
import java.nio.file.Path;
import java.util.LinkedHashMap;
import java.util.Map;
import java.util.function.Predicate;
import java.util.function.ToIntFunction;

/**
 * The document's sentences: says(..) names the one that all asked behind it is for. Each must stand in the document
 * word by word, each must have something asked, and no words of "Terms" and of the promises may be left without one.
 */
final class Sentences {
    static final int NONE = DesertJars.NONE;
    static final int LOW = Integer.MIN_VALUE;
    static final int HIGH = Integer.MAX_VALUE;

    private static final String TERMS = "Terms";
    private static final Path DOCUMENT = Path.of("..", "shared", "DOC.md");
    private static final Map<String, String> SECTIONS = new LinkedHashMap<>();
    private static final Map<String, boolean[]> COVERED = new LinkedHashMap<>();
    private static String section = "";
    private static String sentence = "";
    private static int askedBefore;
    private static int sentences;

    private Sentences() {
    }

    /** Reads "Terms" and the promises; without the document beside the project only the answers are looked at. */
    static void open() throws IOException {
        if (!Files.exists(DOCUMENT)) {
            System.out.println("no " + DOCUMENT + ": the sentences themselves are not looked up");
            return;
        }
        String heading = "";
        StringBuilder text = new StringBuilder();
        for (String line : (Files.readString(DOCUMENT) + "\n## end").split("\n")) {
            if (line.startsWith("## ")) {
                keepSection(heading, text.toString());
                heading = line.substring(3).replaceAll(":.*", "").trim();
                text.setLength(0);
            } else if (!line.startsWith("```")) {
                text.append(' ').append(line.replaceAll("==== \\d\\.", ""));
            }
        }
    }

    private static void keepSection(String heading, String text) {
        if (heading.equals(TERMS) || heading.startsWith("Promise ")) {
            String words = text.replaceAll("\\s+", " ").trim().replaceAll("^`[^`]*`: ", "");
            SECTIONS.put(heading, words);
            COVERED.put(heading, new boolean[words.length()]);
        }
    }

    /** Words of a promise's own section. */
    static void says(int promise, String words) {
        begin("Promise " + promise, "Promise " + promise, words);
    }

    /** Words of "Terms" on which a promise stands. */
    static void saysOf(int promise, String words) {
        begin("Promise " + promise + " by " + TERMS, TERMS, words);
    }

    /** From here on all that is asked is for these words of the document. */
    private static void begin(String name, String of, String words) {
        endSentence();
        section = name;
        sentence = words;
        askedBefore = Desk.asked;
        sentences++;
        if (!SECTIONS.isEmpty()) {
            cover(of, words);
        }
    }

    private static void endSentence() {
        if (!sentence.isEmpty() && Desk.asked == askedBefore) {
            Desk.due(section + ", \"" + sentence + "\": something asked", 0, 1);
        }
    }

    /** Words that stand there twice are covered by turns. */
    private static void cover(String of, String words) {
        String text = SECTIONS.getOrDefault(of, "");
        int place = text.indexOf(words);
        while (place >= 0 && text.indexOf(words, place + 1) >= 0 && COVERED.get(of)[place]) {
            place = text.indexOf(words, place + 1);
        }
        if (place < 0) {
            Desk.due(of + ", \"" + words + "\": these words stand there", 0, 1);
            return;
        }
        for (int i = place; i < place + words.length(); i++) {
            COVERED.get(of)[i] = true;
        }
    }

    static void close() {
        endSentence();
        for (Map.Entry<String, String> entry : SECTIONS.entrySet()) {
            StringBuilder left = new StringBuilder();
            boolean[] covered = COVERED.get(entry.getKey());
            for (int i = 0; i < covered.length; i++) {
                left.append(covered[i] ? '\n' : entry.getValue().charAt(i));
            }
            for (String words : left.toString().split("\n+")) {
                if (words.matches(".*[A-Za-z0-9].*")) {
                    Desk.due(entry.getKey() + ", \"" + words.trim() + "\": a test of its own", 0, 1);
                }
            }
        }
        System.out.println("SentencesTest: " + sentences + " sentences");
        Desk.close("SentencesTest");
    }

    static void due(String call, long got, long want) {
        Desk.due(section + ", \"" + sentence + "\": " + call, got, want);
    }

    static void due(String call, boolean got, boolean want) {
        due(call, got ? 1 : 0, want ? 1 : 0);
    }

    static String times(String text, int n, String between) {
        StringBuilder all = new StringBuilder();
        for (int i = 0; i < n; i++) {
            all.append(i > 0 ? between : "").append(text);
        }
        return all.toString();
    }

    static String letter(int w) {
        return String.valueOf((char) ('a' + w));
    }

    /** X after so many DRAWS. */
    static int drawn(int x, int draws) {
        long value = x;
        for (int i = 0; i < draws; i++) {
            value = (25173 * value + 13849) % 65536;
        }
        return (int) value;
    }

    /** JARS of all WELLS in one text, which is easy to compare and to read: "4 0 1". */
    static String jars(DesertJars x) {
        StringBuilder all = new StringBuilder();
        for (int w = 0; w < x.count(1); w++) {
            all.append(w > 0 ? " " : "").append(x.wellIs(w, 0));
        }
        return all.toString();
    }

    static void dueText(String call, String got, String want) {
        due(call + " (" + got + ", not " + want + ")", got.equals(want), true);
    }

    /** All that can be seen of an object without changing it. */
    static String seen(DesertJars x) {
        StringBuilder all = new StringBuilder();
        for (int what = 0; what <= 8; what++) {
            all.append(x.count(what)).append(',');
        }
        for (int w = 0; w < x.count(1); w++) {
            for (int what = 0; what <= 3; what++) {
                all.append(x.wellIs(w, what)).append(',');
            }
            all.append(x.tried(2, 10 + w)).append(',').append(x.tried(7, 10 + w)).append(';');
        }
        for (int n = 1; n <= 5; n++) {
            all.append(x.tried(n, 0)).append(',').append(x.tried(n, 1)).append(',').append(x.tried(n, 2)).append(';');
        }
        return all.toString();
    }

    /** A desert in which all that can be kept, fed or told differs from what it is at first. */
    static DesertJars lived() {
        DesertJars x = Desk.at("L2*R3;a/b", "a7b2d4f1");
        x.seed(777);
        Desk.law(x, "e1+g+n(m<9);c2+f%2(1=1);r4(n>1);x(d=3)");
        x.room(2, 3);
        x.queen(4);
        x.days(1);
        x.keep();
        x.days(1);
        x.room(1, 11);
        x.queen(5);
        return x;
    }

    static final String TAPE_OF_LIVED = "a6b5c4";

    /** A call that must answer so and leave all as it was, but for the tape if that is told to be empty then. */
    static void stays(String call, ToIntFunction<DesertJars> made, int want, boolean emptyThen) {
        DesertJars x = lived();
        DesertJars twin = lived();
        if (!emptyThen) {
            Desk.feed(x, Desk.bytes(TAPE_OF_LIVED));
            Desk.feed(twin, Desk.bytes(TAPE_OF_LIVED));
        }
        due(call, made.applyAsInt(x), want);
        dueText(call + ": all stays", seen(x), seen(twin));
        if (emptyThen) {
            due(call + ": the tape is empty", x.count(6), 0);
        } else {
            due(call + ": what is on the tape stays", x.laying(TAPE_OF_LIVED.length()), 15);
            twin.laying(TAPE_OF_LIVED.length());
        }
        due(call + ": what was KEPT stays", x.undo() && twin.undo() && seen(x).equals(seen(twin)), true);
    }

    /** A call that is refused with NONE. */
    static void refused(String call, ToIntFunction<DesertJars> made) {
        stays(call, made, NONE, false);
    }

    /** A call that is refused with false. */
    static void refusedFalse(String call, Predicate<DesertJars> made) {
        stays(call, x -> made.test(x) ? 1 : 0, 0, false);
    }
}
