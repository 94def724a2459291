import java.io.IOException;
import java.lang.reflect.Constructor;
import java.lang.reflect.Field;
import java.lang.reflect.Method;
import java.lang.reflect.Modifier;
import java.nio.file.Files;
import java.nio.file.Path;
import java.util.ArrayList;
import java.util.Arrays;
import java.util.List;
import java.util.Set;
import java.util.TreeSet;
import java.util.function.ToIntFunction;
import java.util.regex.Matcher;
import java.util.regex.Pattern;

/**
 * What of the document stands ahead of "Terms": the face, to the letter, and an object's 512 calls. SentencesTest has
 * "Terms" and the promises; "Not promised" asks for nothing.
 */
public final class DocumentTest {
    private static final int MOST_CALLS = 512;
    private static final Path DOCUMENT = Path.of("..", "shared", "DOC.md");

    private DocumentTest() {
    }

    // ---- the public face

    private static String parameters(Class<?>[] types) {
        List<String> names = new ArrayList<>();
        for (Class<?> type : types) {
            names.add(type.getSimpleName());
        }
        return "(" + String.join(", ", names) + ")";
    }

    /** All that can be used from elsewhere, told as the document tells it, but for the names of parameters. */
    private static Set<String> faceOfClass() throws IllegalAccessException {
        Set<String> face = new TreeSet<>();
        for (Method method : DesertJars.class.getDeclaredMethods()) {
            if (!Modifier.isPrivate(method.getModifiers()) && !method.isSynthetic()) {
                face.add(Modifier.toString(method.getModifiers()) + " " + method.getReturnType().getSimpleName() + " "
                    + method.getName() + parameters(method.getParameterTypes()));
            }
        }
        for (Constructor<?> maker : DesertJars.class.getDeclaredConstructors()) {
            face.add(Modifier.toString(maker.getModifiers()) + " DesertJars" + parameters(maker.getParameterTypes()));
        }
        for (Field field : DesertJars.class.getDeclaredFields()) {
            if (!Modifier.isPrivate(field.getModifiers())) {
                face.add(Modifier.toString(field.getModifiers()) + " " + field.getType().getSimpleName() + " "
                    + field.getName() + " = " + field.get(null));
            }
        }
        return face;
    }

    private static String codeBehind(String document, String heading) {
        Matcher matcher = Pattern.compile("(?s)\n" + Pattern.quote(heading) + "\n.*?```java\n(.*?)```").matcher(document);
        return matcher.find() ? matcher.group(1) : "";
    }

    private static Set<String> faceOfDocument(String document) {
        Set<String> face = new TreeSet<>();
        for (String line : codeBehind(document, "## The public face").split("\n")) {
            if (line.trim().endsWith(";")) {
                face.add(line.trim().replaceAll(";$", "").replaceAll("\\b(int|boolean) \\w+(?=[,)])", "$1"));
            }
        }
        return face;
    }

    private static void face() throws IOException, IllegalAccessException {
        String document = Files.readString(DOCUMENT);
        Set<String> due = faceOfDocument(document);
        Set<String> found = faceOfClass();
        Desk.due("the document's face has something", due.isEmpty(), false);
        for (String one : due) {
            Desk.due("the class has " + one, found.contains(one), true);
        }
        for (String one : found) {
            Desk.due("the document has " + one, due.contains(one), true);
        }
        Desk.due("public final class", Modifier.toString(DesertJars.class.getModifiers()).equals("public final"), true);
        promisesAreOfTheFace(document, due);
    }

    /** Each promise's own line must tell the same call as the face, else one of both has been changed alone. */
    private static void promisesAreOfTheFace(String document, Set<String> face) {
        Matcher promise = Pattern.compile("\n## Promise (\\d+): .*\n\n`([^`]*)`").matcher(document);
        int promises = 0;
        while (promise.find()) {
            promises++;
            Desk.due("the number of promise " + promises, Integer.parseInt(promise.group(1)), promises);
            String call = "public " + promise.group(2).replaceAll("\\b(int|boolean) \\w+(?=[,)])", "$1");
            Desk.due("promise " + promises + " is of the face: " + call, face.contains(call), true);
        }
        Desk.due("promises, with the constant those of the face", promises + 1, face.size());
    }

    // ---- objects

    private static ToIntFunction<DesertJars> text(String kind, String text) {
        return x -> {
            switch (kind) {
                case "land":
                    return Desk.land(x, text);
                case "laying":
                    return Desk.laying(x, text);
                case "law":
                    return Desk.law(x, text);
                case "ledger":
                    return Desk.ledger(x, text, 0);
                default:
                    return Desk.product(x, text);
            }
        };
    }

    private static List<ToIntFunction<DesertJars>> calls(String land, String laying, String law, String ledger, int w) {
        return Arrays.asList(text("land", land), text("laying", laying), text("law", law), x -> x.seed(31 * w + 5) ? 1 : 0,
            x -> x.keep(), x -> x.queen(w) ? 1 : 0, x -> x.room(w, 3) ? 1 : 0, x -> x.tried(20, 2), x -> x.days(2),
            x -> x.reach(w, 1, true, 1), x -> x.number(w, 101), x -> x.landNumber(0), x -> x.landNumber(1),
            x -> x.fewest(101), x -> x.fewest(w), x -> x.symmetries(w), x -> x.symmetries(100), text("ledger", ledger),
            x -> x.number(w, 0), x -> x.robbers(w), x -> x.steps(0, w), x -> x.atOnce(), text("product", "K3,L2"),
            x -> x.number(w, 100), x -> x.wellIs(w, 3), x -> x.count(7), x -> x.count(3), x -> x.undo() ? 1 : 0,
            x -> x.count(3), x -> x.count(4), x -> x.feed(w, w, w, w, w), x -> x.check(1), x -> x.count(6));
    }

    private static int[] answers(DesertJars x, List<ToIntFunction<DesertJars>> calls) {
        return calls.stream().mapToInt(call -> call.applyAsInt(x)).toArray();
    }

    /** All memory is the desert's own: what one is told, another never knows. */
    private static void sideBySide() {
        List<ToIntFunction<DesertJars>> one = calls("L2*R3;a/b", "a6b1c2e3", "e9-s(1=1);r4(n>1)", "?;?", 4);
        List<ToIntFunction<DesertJars>> other = calls("S5;b-c", "b5c4d1", "e1+m(n>2);x(d=1);c3(1=1)", "b>a;?", 2);
        int[] alone = answers(new DesertJars(), one);
        int[] otherAlone = answers(new DesertJars(), other);
        DesertJars x = new DesertJars();
        DesertJars y = new DesertJars();
        for (int i = 0; i < alone.length; i++) {
            Desk.due("side by side, call " + i, one.get(i).applyAsInt(x), alone[i]);
            Desk.due("side by side, the other's call " + i, other.get(i).applyAsInt(y), otherAlone[i]);
        }
    }

    /** The same answers at the end of an object's 512 calls as at first, and no object is used up by calls before. */
    private static void lastCalls() {
        List<ToIntFunction<DesertJars>> before = calls("K6*L2", "a3b9l6", "r9(1=1)", "?;?;?", 7);
        List<ToIntFunction<DesertJars>> last = calls("L2*R3;a/b", "a6b1c2e3", "e9-s(1=1);r4(n>1)", "?;?", 4);
        int[] fresh = answers(new DesertJars(), last);
        DesertJars x = new DesertJars();
        // A text takes one feed and one call.
        int callsOfAll = before.size() + 5;
        for (int made = callsOfAll; made + callsOfAll <= MOST_CALLS; made += callsOfAll) {
            answers(x, before);
        }
        int[] late = answers(x, last);
        for (int i = 0; i < fresh.length; i++) {
            Desk.due("one of the last calls, " + i, late[i], fresh[i]);
        }
    }

    public static void main(String[] args) throws IOException, IllegalAccessException {
        face();
        sideBySide();
        lastCalls();
        Desk.close("DocumentTest");
    }
}
