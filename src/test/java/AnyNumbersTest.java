import java.lang.reflect.InvocationTargetException;
import java.lang.reflect.Method;
import java.lang.reflect.Modifier;
import java.util.ArrayList;
import java.util.Arrays;
import java.util.Comparator;
import java.util.List;

/**
 * Every call of the face with numbers from one end of int to the other, in deserts of all kinds: it throws nothing,
 * answers as the slow model does, and leaves what that leaves.
 */
public final class AnyNumbersTest {
    private static final int LOW = Integer.MIN_VALUE;
    private static final int HIGH = Integer.MAX_VALUE;
    private static final int[] NUMBERS = {LOW, LOW + 1, LOW + 9, LOW + 10, -65536, -1000, -101, -100, -10, -2, -1, 0, 1, 2,
        3, 4, 7, 8, 9, 10, 11, 12, 13, 20, 21, 22, 39, 40, 41, 59, 60, 61, 99, 100, 101, 102, 111, 112, 239, 240, 241, 255,
        256, 259, 260, 261, 65535, 65536, HIGH - 10, HIGH - 9, HIGH - 1, HIGH};
    private static final int[] FEW_NUMBERS = {LOW, -1, 0, 1, 2, 3, 5, 12, 40, 41, 100, HIGH};

    private final DesertJars x = new DesertJars();
    private final Plain slow = new Plain();
    private final String told;
    private final String onTape;

    private AnyNumbersTest(String land, String laying, String law, String onTape) {
        told = "in " + land + " with " + laying + " by " + law + " with " + onTape + " on the tape: ";
        this.onTape = onTape;
        if (!land.isEmpty()) {
            feed(land);
            due("land", x.land(land.length()), slow.land(land.length()));
        }
        if (!laying.isEmpty()) {
            feed(laying);
            due("laying", x.laying(laying.length()), slow.laying(laying.length()));
        }
        if (!law.isEmpty()) {
            feed(law);
            due("law", x.law(law.length()), slow.law(law.length()));
        }
    }

    private void due(String call, int got, int want) {
        Desk.due(told + call, got, want);
    }

    private void feed(String text) {
        for (int[] five : Desk.fives(Desk.bytes(text))) {
            x.feed(five[0], five[1], five[2], five[3], five[4]);
            slow.feed(five);
        }
    }

    private static int asInt(Object answer) {
        return answer instanceof Boolean yes ? (yes ? 1 : 0) : (Integer) answer;
    }

    private void ask(Method method, Object... numbers) throws ReflectiveOperationException {
        String call = method.getName() + Arrays.toString(numbers);
        if (slow.count(6) == 0) {
            feed(onTape);
        }
        int got;
        try {
            got = asInt(method.invoke(x, numbers));
        } catch (InvocationTargetException thrown) {
            Desk.due(told + call + " threw " + thrown.getCause(), true, false);
            return;
        }
        boolean isFeed = method.getName().equals("feed");
        Method plain = Plain.class.getDeclaredMethod(method.getName(), isFeed ? new Class<?>[] {int[].class}
            : method.getParameterTypes());
        Object want = isFeed ? slow.feed(ints(numbers)) : plain.invoke(slow, numbers);
        due(call, got, asInt(want));
    }

    private static int[] ints(Object[] numbers) {
        int[] all = new int[numbers.length];
        for (int i = 0; i < all.length; i++) {
            all[i] = (Integer) numbers[i];
        }
        return all;
    }

    private void askAll(Method method) throws ReflectiveOperationException {
        switch (method.getParameterCount()) {
            case 0:
                ask(method);
                break;
            case 1:
                for (int a : NUMBERS) {
                    ask(method, a);
                }
                break;
            case 2:
                for (int a : NUMBERS) {
                    for (int b : NUMBERS) {
                        ask(method, a, b);
                    }
                }
                break;
            case 4:
                askReach(method);
                break;
            default:
                for (int a : NUMBERS) {
                    ask(method, a, -a, a, ~a, a);
                }
        }
    }

    private void askReach(Method method) throws ReflectiveOperationException {
        for (int w : FEW_NUMBERS) {
            for (int k : FEW_NUMBERS) {
                for (int what : FEW_NUMBERS) {
                    ask(method, w, k, true, what);
                    ask(method, w, k, false, what);
                }
            }
        }
    }

    private void seenAlike(String behind) {
        for (int what = 0; what <= 8; what++) {
            due("count(" + what + ") behind " + behind, x.count(what), slow.count(what));
        }
        for (int w = 0; w < slow.next.length; w++) {
            for (int what = 0; what <= 3; what++) {
                due("wellIs(" + w + ", " + what + ") behind " + behind, x.wellIs(w, what), slow.wellIs(w, what));
            }
        }
    }

    private void go() throws ReflectiveOperationException {
        List<Method> face = new ArrayList<>();
        for (Method method : DesertJars.class.getDeclaredMethods()) {
            if (Modifier.isPublic(method.getModifiers())) {
                face.add(method);
            }
        }
        face.sort(Comparator.comparing(Method::getName));
        for (Method method : face) {
            askAll(method);
            seenAlike(method.getName());
        }
    }

    public static void main(String[] args) throws ReflectiveOperationException {
        String[] tapes = {"L3;a-c", "a2b1", "e9-s(1=1);r2(n>0)", "a>b;?", "K2,L3", "\u0001\u0040\u0000\u0020\u0000\u0001",
            "\u00FF\u00FF\u00FF\u00FF", "\u0000\u0000\u0000\u0000"};
        for (String tape : tapes) {
            new AnyNumbersTest("", "", "", tape).go();
            new AnyNumbersTest("L1", "a3", "e1(1=1);r99999*99999(1/d=1)", tape).go();
            new AnyNumbersTest("L3", "a4c2", "e9-s(1=1);c3(w>4);r5(1=1);x(d%7=3)", tape).go();
            new AnyNumbersTest("L2*R3;a/b", "b3e2f1", "e0-n*99999*99999(1=1);e1/m(m<9)", tape).go();
            new AnyNumbersTest("L4;b/c", "a2b1d3", "x(1=0)", tape).go();
            new AnyNumbersTest("L12;a-c", "a5l40", "e[f+1]*[g+1](1=1)", tape).go();
        }
        Desk.close("AnyNumbersTest");
    }
}
