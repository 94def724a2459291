import java.io.IOException;
import java.lang.reflect.Constructor;
import java.lang.reflect.Field;
import java.lang.reflect.Method;
import java.lang.reflect.Modifier;
import java.nio.file.Files;
import java.nio.file.Path;
import java.util.Arrays;
import java.util.HashSet;
import java.util.Set;
import java.util.TreeSet;
import java.util.regex.Matcher;
import java.util.regex.Pattern;

/** What of LANGUAGE.md can be seen without reading: the face, words that may not stand there, sizes. */
public final class LanguageTest {
    private static final String FACE = "feed(int,int,int,int,int)int atOnce()int keep()int undo()boolean room(int,int)boolean "
        + "queen(int)boolean law(int)int land(int)int laying(int)int days(int)int tried(int,int)int wellIs(int,int)int "
        + "steps(int,int)int reach(int,int,boolean,int)int number(int,int)int landNumber(int)int fewest(int)int paper(int)int "
        + "joined(int,int)int product(int)int robbers(int)int ledger(int,int)int symmetries(int)int seed(int)boolean check(int)int "
        + "count(int)int";

    private LanguageTest() {
    }

    private static String signature(Method method) {
        StringBuilder text = new StringBuilder(method.getName()).append('(');
        for (Class<?> type : method.getParameterTypes()) {
            text.append(text.charAt(text.length() - 1) == '(' ? "" : ",").append(type.getSimpleName());
        }
        return text.append(')').append(method.getReturnType().getSimpleName()).toString();
    }

    private static void face() {
        Set<String> open = new TreeSet<>();
        for (Method method : DesertJars.class.getDeclaredMethods()) {
            if (!Modifier.isPrivate(method.getModifiers()) && !method.isSynthetic()) {
                open.add(signature(method));
                Desk.due("public and not static: " + method, Modifier.isPublic(method.getModifiers())
                    && !Modifier.isStatic(method.getModifiers()), true);
            }
        }
        Desk.due("the face's methods " + open, open.equals(new TreeSet<>(Arrays.asList(FACE.split(" ")))), true);
        for (Field field : DesertJars.class.getDeclaredFields()) {
            boolean constant = Modifier.isStatic(field.getModifiers());
            Desk.due("private: " + field, Modifier.isPrivate(field.getModifiers()), !field.getName().equals("NONE"));
            Desk.due("static is final: " + field, !constant || Modifier.isFinal(field.getModifiers()), true);
        }
        Constructor<?>[] makers = DesertJars.class.getDeclaredConstructors();
        Desk.due("one public constructor", makers.length == 1 && Modifier.isPublic(makers[0].getModifiers())
            && makers[0].getParameterCount() == 0, true);
        Desk.due("public and final", DesertJars.class.getModifiers() & (Modifier.PUBLIC | Modifier.FINAL),
            Modifier.PUBLIC | Modifier.FINAL);
    }

    private static void inside() {
        Set<String> names = new HashSet<>();
        for (String method : FACE.split(" ")) {
            names.add(method.substring(0, method.indexOf('(')));
        }
        Class<?>[] classes = DesertJars.class.getDeclaredClasses();
        Desk.due("at most twelve classes", classes.length <= 11, true);
        for (Class<?> one : classes) {
            Desk.due("static: " + one, Modifier.isStatic(one.getModifiers()), true);
            for (Method method : one.getDeclaredMethods()) {
                Desk.due("a name of the face: " + method, names.contains(method.getName()), false);
                Desk.due("seven parameters at most: " + method, method.getParameterCount() <= 7, true);
            }
            int fields = 0;
            for (Field field : one.getDeclaredFields()) {
                fields += Modifier.isStatic(field.getModifiers()) ? 0 : 1;
            }
            Desk.due("some twenty fields at most: " + one, fields <= 20, true);
        }
    }

    private static String bare(String source) {
        return source.replaceAll("(?s)/\\*.*?\\*/", " ").replaceAll("//[^\\n]*", " ")
            .replaceAll("\"(\\\\.|[^\"\\\\])*\"", "\"\"").replaceAll("'(\\\\.|[^'\\\\])'", "0");
    }

    private static void words(String source) {
        String code = bare(source);
        String[] wrong = {"\\bthrow\\b", "\\btry\\b", "\\bcatch\\b", "\\bsynchronized\\b", "\\bassert\\b", "->", "::", "Exact\\b",
            "\\bstatic\\s*\\{", "\\bpackage\\b", "\\bThread\\b", "\\bRandom\\b", "\\bObject\\b", "\\bhashCode\\b", "\\btoString\\b",
            "\\bprotected\\b", "\\bdouble\\b", "\\bfloat\\b", "\\bwhile\\b", "\\bsuper\\b", "\\bextends\\b"};
        for (String word : wrong) {
            Matcher matcher = Pattern.compile(word).matcher(code);
            Desk.due("no " + word, matcher.find(), false);
        }
        Matcher imports = Pattern.compile("import\\s+([\\w.]+);").matcher(code);
        while (imports.find()) {
            Desk.due("import " + imports.group(1), imports.group(1).equals("java.util.Arrays"), true);
        }
        Matcher system = Pattern.compile("\\b(System|Arrays|Integer|Math)\\.(\\w+)").matcher(code);
        Set<String> allowed = new HashSet<>(Arrays.asList("System.arraycopy", "Arrays.fill", "Integer.bitCount",
            "Integer.MAX_VALUE", "Math.max", "Math.min"));
        while (system.find()) {
            Desk.due("library: " + system.group(), allowed.contains(system.group()), true);
        }
        for (int i = 0; i < source.length(); i++) {
            Desk.due("a sign beyond 127 at " + i, source.charAt(i) < 128, true);
        }
    }

    private static void lengths(String source) {
        String[] lines = source.split("\n");
        Pattern start = Pattern.compile("^(    |        )(?=\\w)[\\w\\[\\] ]+\\([^;]*\\) \\{$");
        for (int i = 0; i < lines.length; i++) {
            Matcher matcher = start.matcher(lines[i]);
            if (!matcher.matches()) {
                continue;
            }
            int end = i;
            while (!lines[end].equals(matcher.group(1) + "}")) {
                end++;
            }
            Desk.due("at most sixty lines: " + lines[i].trim(), end - i <= 60, true);
        }
    }

    public static void main(String[] args) throws IOException {
        String source = Files.readString(Path.of("src/main/java/DesertJars.java"));
        face();
        inside();
        words(source);
        lengths(source);
        Desk.close("LanguageTest");
    }
}
