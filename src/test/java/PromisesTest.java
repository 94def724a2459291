/** Each promise of the document by its number: ordinary calls, the edges that it names, and wrong calls. */
public final class PromisesTest {
    private static final int NONE = DesertJars.NONE;
    private static final int LOW = Integer.MIN_VALUE;
    private static final int HIGH = Integer.MAX_VALUE;

    private PromisesTest() {
    }

    private static void due(String call, long got, long want) {
        Desk.due(call, got, want);
    }

    private static void due(String call, boolean got, boolean want) {
        Desk.due(call, got, want);
    }

    private static String times(String text, int n, String between) {
        StringBuilder all = new StringBuilder();
        for (int i = 0; i < n; i++) {
            all.append(i > 0 ? between : "").append(text);
        }
        return all.toString();
    }

    private static void jars(String what, DesertJars x, int... want) {
        for (int w = 0; w < want.length; w++) {
            due(what + ", jars at " + w, x.wellIs(w, 0), want[w]);
        }
    }

    private static int drawn(int x, int times) {
        long value = x;
        for (int i = 0; i < times; i++) {
            value = (25173 * value + 13849) % 65536;
        }
        return (int) value;
    }

    private static void newObject() {
        DesertJars x = new DesertJars();
        int[] counts = {0, 0, 0, 0, 0, 0, 0, 1, 0};
        for (int what = 0; what < counts.length; what++) {
            due("1: count " + what, x.count(what), counts[what]);
        }
        due("1: wellIs", x.wellIs(0, 0), NONE);
        due("1: steps", x.steps(0, 0), NONE);
        due("1: undo", x.undo(), false);
        due("1: days", x.days(3), 0);
        due("1: day", x.count(0), 3);
        due("1: draws of days without wells", x.count(7), drawn(1, 3));
        due("1: NONE", NONE, -1);
    }

    private static void room() {
        DesertJars x = Desk.at("L3", "a5");
        due("2: at first", x.wellIs(0, 1), 40);
        due("2: 0", x.room(0, 0), true);
        due("2: 40", x.room(2, 40), true);
        due("2: 7", x.room(1, 7), true);
        due("2: is", x.wellIs(1, 1), 7);
        due("2: jars beyond it stay", x.wellIs(0, 0), 5);
        due("2: no well", x.room(3, 5), false);
        due("2: no well below", x.room(-1, 5), false);
        due("2: 41", x.room(0, 41), false);
        due("2: -1", x.room(0, -1), false);
        due("2: extremes", x.room(LOW, HIGH) || x.room(HIGH, 3) || x.room(0, HIGH), false);
        due("2: stays", x.wellIs(0, 1), 0);
        Desk.law(x, "e1(1=1)");
        due("2: no room, none goes", x.room(1, 0) && x.tried(1, 0) == 0, true);
        due("2: room for one, one goes", x.room(1, 1) && x.tried(9, 0) == 1, true);
        Desk.land(x, "L3");
        due("2: a new land has room for 40", x.wellIs(0, 1), 40);
    }

    private static void queen() {
        DesertJars x = new DesertJars();
        due("3: no wells", x.queen(0), false);
        Desk.land(x, "L4");
        due("3: at first", x.count(4), 0);
        due("3: last well", x.queen(3), true);
        due("3: there", x.count(4), 3);
        due("3: no such", x.queen(4) || x.queen(-1) || x.queen(LOW) || x.queen(HIGH), false);
        due("3: stays", x.count(4), 3);
        Desk.land(x, "L4");
        due("3: a new land", x.count(4), 0);
    }

    private static void feed() {
        DesertJars x = Desk.at("K12", "a1b2c3d4e5f6g7h8i9j10k11l12");
        for (int i = 1; i <= 13; i++) {
            due("4: feed " + i, x.feed(0x01020304, 0x05060708, 0x090A0B0C, -1, LOW), 20 * i);
        }
        due("4: too many", x.feed(0, 0, 0, 0, 0), NONE);
        due("4: stays", x.count(6), 260);
        due("4: the highest byte first", x.check(12), NONE);
        due("4: empty then", x.count(6), 0);
    }

    private static void lawReading() {
        String[] texts = {"e1(1=1)", "x(1=1)", "e1(1=1);c3(1=1)", "r1+2*[f-g]%3/n(m<s&q>j|d=w)", "x(!1=1&!!!!!1=1)",
            "e[[[[[[1]]]]]](1=1)", "x(!!!!!1=1)", "x((((((1=1))))))", "e99999(1=1)", "e00001(1=1)", times("x(1=1)", 16, ";")};
        int[] rules = {1, 1, 2, 1, 1, 1, 1, 1, 1, 1, 16};
        for (int i = 0; i < texts.length; i++) {
            DesertJars x = new DesertJars();
            due("5: law " + texts[i], Desk.law(x, texts[i]), rules[i]);
            due("5: rules of " + texts[i], x.count(5), rules[i]);
        }
        Object[] faults = {"a1(1=1)", -1000, "e(1=1)", -1001, "x1(1=1)", -1001, "e1", -1002, "e1(1=1", -1006,
            "e1(1=1);", -1008, "e1(1=1)x", -1007, "e1(1=1);;", -1008, "e1(1=1) ", -1007, "e123456(1=1)", -2006,
            "x(123456=1)", -2007, times("x(1=1)", 17, ";"), -4112, times("x(1=1)", 16, ";") + ";y", -1112,
            "e[[[[[[[1", -5007, "x(!!!!!!1=1)", -5007, "x(!!!!![1]=1)", -5007, "x(((((((1", -5007, "x([1=1)", -1004,
            "x((1)=1)", -1004, "x(1)", -1003, "x(1=1=1)", -1005, "x(a=1)", -1002, "x(1=1&)", -1006, "x(1=1|)", -1006,
            "x(1=1&&1=1)", -1006, "e1+(1=1)", -1003, "e-1(1=1)", -1001, "e[1(1=1)", -1003, "e1](1=1)", -1002, "e", -1001,
            "e!1(1=1)", -1001, "x(!)", -1003, "x()", -1002, "x", -1001, "x(1=1))", -1006, "e1;", -1002,
            "e1((1=1)", -1008, "x(1<=1)", -1004, "\u00e91(1=1)", -1000};
        for (int i = 0; i < faults.length; i += 2) {
            DesertJars x = new DesertJars();
            Desk.law(x, "r1(1=1);e2(1=1)");
            due("5: fault of " + faults[i], Desk.law(x, (String) faults[i]), (Integer) faults[i + 1]);
            due("5: the one before stays", x.count(5), 2);
            due("5: the tape is empty", x.count(6), 0);
        }
        DesertJars x = new DesertJars();
        Desk.feed(x, Desk.bytes(times("x(1=1)", 3, ";")));
        due("5: no such n", Math.max(Math.max(x.law(0), x.law(-1)), Math.max(x.law(241), x.law(21))), NONE);
        due("5: the tape stays", x.count(6), 20);
        due("5: the first n alone", x.law(6), 1);
        String longest = "e1(1" + times("+1", 115, "") + "=116)";
        due("5: 239 bytes", longest.length(), 239);
        due("5: a long one", Desk.law(x, longest.replace("=116", "=0116")), 1);
    }

    private static void landReading() {
        Object[] lands = {"L1", 1, "L12", 12, "L01", 1, "R3", 3, "S2", 2, "K1", 1, "L3*L4", 12, "((L2))", 2, "L2*(L2*L3)", 12,
            "(L2)*(L3)", 6, "L3;a-c", 3, "L3;a/b;b/c;a-b", 3, "K12" + times(";a/b", 10, ""), 12};
        for (int i = 0; i < lands.length; i += 2) {
            due("6: land " + lands[i], Desk.land(new DesertJars(), (String) lands[i]), (Integer) lands[i + 1]);
        }
        Object[] faults = {"x", -1000, "L", -1001, "L0", -3001, "L13", -3001, "L00", -3001, "L123", -2003, "L991", -2003, "R2", -3001,
            "S1", -3001, "L13x", -3001, "L3x", -1002, "L3*", -1003, "L4*L4", -6003, "L4*L4x", -6003, "L4*L4*", -6003,
            "(L4*L4)", -6004, "L7*(L2)", -6003, "L7*(L2x", -1006, "(((L2", -5002, "((L2)*(L2*(L2", -5010, "(L3", -1003, "()", -1001,
            "(L3))", -1004, "L3)", -1002, "L2*13", -1003, "L3;", -1003, "L3;a", -1004, "L3;a-", -1005, "L3;a-b;", -1007,
            "L3;a+b", -1004, "L3;d-a", -7003, "L3;a-d", -7005, "L3;a-a", -8005, "L3;m-a", -1003, "L3;a-m", -1005, "L3;d/d", -7003,
            "L3 ", -1002, "l3", -1000, "L2,L2", -1002, "L3" + times(";a-b", 10, "") + ";a", -4043,
            "L3" + times(";a-b", 10, "") + ";l", -4043, "L3" + times(";a-b", 10, "") + ";m", -1043, "L3" + times(";a-b", 10, "") + ";",
            -1043, "L-1", -1001};
        for (int i = 0; i < faults.length; i += 2) {
            DesertJars x = Desk.at("S4", "b7");
            x.queen(2);
            x.room(1, 3);
            due("6: fault of " + faults[i], Desk.land(x, (String) faults[i]), (Integer) faults[i + 1]);
            due("6: all stays", x.count(1) == 4 && x.wellIs(1, 0) == 7 && x.wellIs(1, 1) == 3 && x.count(4) == 2, true);
            due("6: the tape is empty", x.count(6), 0);
        }
        due("6: line", Desk.at("L4").wellIs(1, 2), 0b101);
        due("6: ring", Desk.at("R4").wellIs(0, 2), 0b1010);
        due("6: star", Desk.at("S4").wellIs(0, 2), 0b1110);
        due("6: star's other", Desk.at("S4").wellIs(3, 2), 0b1);
        due("6: all", Desk.at("K4").wellIs(2, 2), 0b1011);
        due("6: product, the second's stand together", Desk.at("L2*L3").wellIs(0, 2), 0b1010);
        due("6: product, other way", Desk.at("L3*L2").wellIs(0, 2), 0b110);
        due("6: lines by turns", Desk.at("L2;a/b;a-b").wellIs(0, 2), 0b10);
        due("6: lines by turns, apart", Desk.at("L2;a-b;b/a").wellIs(0, 2), 0);
        DesertJars x = Desk.at("L3", "a4");
        Desk.law(x, "e1(1=1)");
        x.days(1);
        int draw = x.count(7);
        Desk.land(x, "L5");
        due("6: day, law and X stay", x.count(0) == 1 && x.count(5) == 1 && x.count(7) == draw, true);
        due("6: no jars", x.count(3), 0);
        Desk.feed(x, Desk.bytes("K3"));
        due("6: no such n", Math.max(Math.max(x.land(0), x.land(61)), Math.max(x.land(LOW), x.land(21))), NONE);
        due("6: the tape stays", x.count(6), 20);
        due("6: then", x.land(2), 3);
    }

    private static void laying() {
        DesertJars x = Desk.at("L3");
        due("7: one", Desk.laying(x, "b12"), 12);
        due("7: all", Desk.laying(x, "c40b0a05"), 45);
        jars("7: all", x, 5, 0, 40);
        due("7: others have none", Desk.laying(x, "b1"), 1);
        jars("7: others", x, 0, 1, 0);
        Object[] faults = {"x", -1000, "m1", -1000, "d1", -7000, "a", -1001, "ab", -1001, "a41", -3001, "a99b", -3001, "a411", -2003,
            "a1a2", -6002, "a1d2", -7002, "a1b", -1003, "a1 ", -1002, "1a", -1000, "a1;b1", -1002, "a1a41", -6002, "a-1", -1001};
        for (int i = 0; i < faults.length; i += 2) {
            due("7: fault of " + faults[i], Desk.laying(x, (String) faults[i]), (Integer) faults[i + 1]);
            jars("7: stays", x, 0, 1, 0);
            due("7: the tape is empty", x.count(6), 0);
        }
        x.room(0, 2);
        due("7: beyond the room", Desk.laying(x, "a9"), 9);
        due("7: no wells", Desk.laying(new DesertJars(), "a1"), -7000);
        Desk.feed(x, Desk.bytes("a1"));
        due("7: no such n", Math.max(Math.max(x.laying(0), x.laying(61)), x.laying(21)), NONE);
        due("7: the tape stays", x.count(6), 20);
        jars("7: stays then", x, 9);
    }

    /** Jars a, b, c after so many days on L3 from a laying. */
    private static void after(String laying, String law, int days, int... want) {
        DesertJars x = Desk.at("L3", laying);
        due("8: law " + law, Desk.law(x, law) > 0, true);
        x.days(days);
        jars("8: " + laying + " by " + law, x, want);
    }

    private static void days() {
        after("a4", "e1(1=1)", 1, 2, 1, 0);
        after("a4", "c3(1=1);e1(1=1)", 1, 1, 1, 0);
        after("a4", "c3(1=1);e1(1=1)", 5, 1, 1, 0);
        after("a4", "c0-9(1=1);e1(1=1)", 1, 2, 1, 0);
        after("a9", "c99(1=1);e1(1=1)", 1, 0, 1, 0);
        after("a9", "c1/0(1=1);e1(1=1)", 1, 7, 1, 0);
        after("a4", "e0(1=1)", 1, 4, 0, 0);
        after("a4", "e0-1(1=1)", 1, 4, 0, 0);
        after("a4", "e1(1=2)", 1, 4, 0, 0);
        after("a4", "e1(1=2);e2(1=1)", 1, 2, 1, 0);
        after("a4", "e0(1=1);e2(1=1)", 1, 4, 0, 0);
        after("a2c2", "e1(1=1)", 1, 0, 1, 2);
        after("a2c2", "e1(f=0);e2(f=2)", 1, 2, 1, 0);
        after("a2c2", "e99999(f=2);e9999(1=1)", 1, 0, 1, 2);
        after("b2", "e1(1=1)", 1, 1, 0, 0);
        after("b2", "e1+g(1=1)", 1, 0, 0, 1);
        after("b4", "e1(m=0&g=2)", 9, 0, 2, 1);
        after("a4c3", "e1(n=3)", 1, 4, 1, 1);
        after("b2", "e1(s=0)", 1, 1, 0, 0);
        after("b2", "e1(s=2)", 1, 0, 0, 1);
        after("a2b1", "e1(j=3&q=0&d=0)", 1, 0, 2, 0);
        after("a2b1", "e1(j=2)", 1, 2, 1, 0);
        after("a4", "x(d=0);e1(1=1)", 1, 4, 0, 0);
        after("a4", "e1(1=1);x(d=0)", 2, 2, 1, 0);
        after("a4", "x(1=2);x(1=1);e1(1=1)", 3, 4, 0, 0);
        after("a4", "x(f+g+n+m+s>0);e1(1=1)", 1, 2, 1, 0);
        after("a4", "x(1/0=0);e1(1=1)", 1, 2, 1, 0);
        after("a4", "e1/0(1=1)", 1, 4, 0, 0);
        after("a4", "e1%0(1=1)", 1, 4, 0, 0);
        after("a4", "e1/0(1=1);e1(1=1)", 1, 4, 0, 0);
        after("a4", "e1(1/0=1)", 1, 4, 0, 0);
        after("a4", "e1(!(1/0=1))", 1, 4, 0, 0);
        after("a4", "e1(1%0=1|1=1)", 1, 4, 0, 0);
        after("a4", "e1(1=1|1/0=1)", 1, 2, 1, 0);
        after("a4", "e1(1=2&1/0=1|1=1)", 1, 2, 1, 0);
        after("a4", "e1(1=2&1/0=1&1=1|1=2|1=1&1=1)", 1, 2, 1, 0);
        after("a4", "e1(1=1|1=2&1=2)", 1, 2, 1, 0);
        after("a4", "e1(!1=2&!(1=1&1=2))", 1, 2, 1, 0);
        after("a4", "e1(!!1=2|!!!1=1)", 1, 4, 0, 0);
        after("a4", "e1(8-4-2=2&8/4*2=4&2+3*4=14&7%4*2=6&2*[3+4]=14&9-[4-2]=7)", 1, 2, 1, 0);
        after("a4", "e1(99999*99999%50000=15409)", 1, 2, 1, 0);
        after("a4", "e1([0-65536*32768]/[0-1]<0&[0-65536*32768]%[0-1]=0)", 1, 2, 1, 0);
        after("a4", "e1([0-7]/2=0-3&[0-7]%2=0-1)", 1, 2, 1, 0);
        after("a4b1c2", "r10(1=1)", 1, 3, 0, 1);
        after("a4b1c2", "r99(f=2)", 2, 4, 1, 0);
        after("a4b1c2", "r0-1(1=1)", 2, 4, 1, 2);
        after("a4b1c2", "r10/0(1=1)", 2, 4, 1, 2);
        after("a4b1c2", "r10(n=1&g=0&m=0)", 1, 4, 0, 2);
        after("a4b1c2", "r10(s=2)", 1, 4, 1, 1);
        after("a4b1c2", "r10(j<7)", 1, 4, 1, 2);
        after("a4b1c2", "r10(j=7|j=6)", 1, 3, 0, 2);
        after("a2", "e1(1=1);r10(1=1)", 1, 0, 0, 0);
        DesertJars x = Desk.at("L3", "a4c1");
        due("8: none goes without a law", x.days(1), 0);
        due("8: a draw for the day and for each well with jars", x.count(7), drawn(1, 3));
        Desk.law(x, "e1(1=1)");
        due("8: gone", x.days(100), 3);
        due("8: wrong n", Math.max(Math.max(x.days(0), x.days(101)), Math.max(x.days(-1), x.days(HIGH))), NONE);
        due("8: the day", x.count(0), 101);
        lastDay();
        draws();
        DesertJars apart = Desk.at("L3;a/b", "b2");
        Desk.law(apart, "e1(s=99)");
        due("8: no way is 99", apart.days(1), 1);
    }

    private static void lastDay() {
        DesertJars x = Desk.at("L3", "a4");
        for (int i = 0; i < 99; i++) {
            x.days(100);
        }
        Desk.law(x, "e1(d=99)");
        due("8: d is the day modulo 100", x.tried(98, 0) + 10 * x.tried(99, 0) + 100 * x.tried(100, 0), 0);
        due("8: as many as can", x.days(98), 0);
        due("8: day", x.count(0), 9998);
        due("8: the last day", x.days(100), 0);
        due("8: 9999", x.count(0), 9999);
        int draw = x.count(7);
        due("8: none goes by", x.days(100), 0);
        due("8: tried, none goes by", x.tried(1, 0), 0);
        due("8: still", x.count(0) == 9999 && x.count(7) == draw, true);
    }

    private static void draws() {
        for (int seed = 0; seed < 65536; seed += 4099) {
            DesertJars x = Desk.at("L2", "a1b1");
            x.seed(seed);
            int day = drawn(seed, 1) % 10;
            int first = drawn(seed, 2) % 10;
            int second = drawn(seed, 3) % 10;
            Desk.law(x, "r5(1=1)");
            due("8: robbed at a", x.tried(1, 10), first < 5 ? 0 : 1);
            due("8: robbed at b", x.tried(1, 11), second < 5 ? 0 : 1);
            Desk.law(x, "r10(w=" + day + ")");
            due("8: w is the draw of the day", x.tried(1, 1), 2);
        }
    }

    private static void tried() {
        DesertJars x = Desk.at("L3", "a4");
        Desk.law(x, "e9(g>f);r10(f=2)");
        due("9: gone", x.tried(3, 0), 3);
        due("9: robbed", x.tried(3, 1), 1);
        due("9: jars", x.tried(3, 2), 0);
        due("9: jars after two", x.tried(2, 2), 2);
        due("9: jars at b", x.tried(2, 11), 2);
        due("9: nothing is changed", x.count(0) == 0 && x.count(7) == 1 && x.wellIs(0, 0) == 4, true);
        due("9: no such well", x.tried(1, 13), NONE);
        int[] wrong = {-1, 3, 9, 100, LOW, HIGH};
        for (int what : wrong) {
            due("9: no such what " + what, x.tried(1, what), NONE);
        }
        due("9: no such n", Math.max(Math.max(x.tried(0, 0), x.tried(101, 0)), x.tried(LOW, 0)), NONE);
        due("9: as days do", x.days(3), 3);
        due("9: robbed now", x.count(3), 0);
    }

    private static void wells() {
        DesertJars x = Desk.at("L4;c/d", "b6");
        x.room(1, 9);
        x.queen(2);
        due("10: jars", x.wellIs(1, 0), 6);
        due("10: room", x.wellIs(1, 1), 9);
        due("10: next", x.wellIs(1, 2), 0b101);
        due("10: none next", x.wellIs(3, 2), 0);
        due("10: steps", x.wellIs(0, 3), 2);
        due("10: no way", x.wellIs(3, 3), -2);
        due("10: none of these", Math.max(Math.max(x.wellIs(0, 4), x.wellIs(0, -1)), Math.max(x.wellIs(4, 0), x.wellIs(LOW, 0))),
            NONE);
        due("11: far", x.steps(0, 2), 2);
        due("11: itself", x.steps(3, 3), 0);
        due("11: no way", x.steps(0, 3), -2);
        due("11: no such", Math.max(Math.max(x.steps(0, 4), x.steps(4, 0)), Math.max(x.steps(-1, 0), x.steps(0, HIGH))), NONE);
        due("11: round a ring", Desk.at("R7").steps(1, 6), 2);
        due("11: product", Desk.at("L3*L4").steps(0, 11), 5);
    }

    private static void reach() {
        DesertJars x = Desk.at("L3", "c4");
        due("12: three moves", x.reach(0, 1, false, 0), 3);
        due("12: by", x.reach(0, 1, false, 1), 256 * 2 + 16 * 2 + 1);
        due("12: two can't be", x.reach(0, 2, false, 0), -2);
        due("12: nor by", x.reach(0, 2, true, 1), -2);
        due("12: none needed", x.reach(2, 4, false, 0), 0);
        due("12: none needed, by", x.reach(2, 4, true, 1), -3);
        due("12: no such", Math.max(Math.max(x.reach(3, 1, false, 0), x.reach(-1, 1, false, 0)),
            Math.max(Math.max(x.reach(0, 0, false, 0), x.reach(0, 41, false, 0)), Math.max(x.reach(0, 1, true, 2),
            x.reach(0, 1, true, -1)))), NONE);
        due("12: 40 can't be", x.reach(2, 40, false, 0), -2);
        DesertJars k = Desk.at("K3", "a2b2");
        due("12: the lowest from", k.reach(2, 1, false, 1), 2);
        due("12: both jars", k.reach(2, 2, false, 0), 2);
        Desk.laying(k, "a1b1");
        due("12: from one well it can't be", k.reach(2, 1, false, 0), -2);
        due("12: from both sides", k.reach(2, 1, true, 1), 16 + 2);
        Desk.laying(k, "a1b2");
        due("12: one well ahead of both sides", k.reach(2, 1, true, 1), 256 + 16 + 2);
        DesertJars r = Desk.at("R4", "a4");
        due("12: the lowest to", r.reach(2, 1, false, 1), 1);
        due("12: three", r.reach(2, 1, false, 0), 3);
        Desk.laying(r, "a2c2");
        due("12: from both to d", r.reach(3, 2, true, 0), 2);
        Desk.laying(r, "b1d1");
        due("12: both sides, the lower first", r.reach(2, 1, true, 1), 256 + 16 * 3 + 2);
        Desk.laying(r, "b2a1");
        due("12: the law and room aside", r.room(2, 0) && r.reach(2, 1, false, 0) == 1, true);
        Desk.laying(r, "a7b6");
        due("12: 13 jars", r.reach(2, 1, false, 0), -4);
        due("12: no such ahead of it", r.reach(4, 1, false, 0), NONE);
        Desk.laying(r, "a12");
        due("12: 12 jars", r.reach(2, 3, false, 0), 9);
        due("12: 9 wells", Desk.at("L9").reach(0, 1, false, 0), -4);
        due("12: 8 wells", Desk.at("L8", "a12").reach(3, 1, false, 0), 7);
        due("12: no way", Desk.at("L3;b/c", "c9").reach(0, 1, true, 0), -2);
        // c and b can meet at a's neighbour d only through the well beyond: going away from the aim.
        DesertJars away = Desk.at("L4;a-d", "b1c2");
        due("12: c goes to b, b to a", away.reach(0, 1, false, 1), 256 * 2 + 16 * 2 + 1);
    }

    private static void numbers() {
        Object[] lands = {"L1", 1, "L2", 2, "L3", 4, "L4", 8, "L5", 16, "L6", 32, "K5", 5, "K12", 12, "R3", 3, "R4", 4, "R5", 5, "R6", 8,
            "R7", 11, "R8", 16, "S4", 5, "S7", 8, "L2*L2*L2", 8, "L2*L3", 8, "L7", -4, "S12", -4, "L3;a/b", -2, "L12;a/b", -2};
        for (int i = 0; i < lands.length; i += 2) {
            due("14: of " + lands[i], Desk.at((String) lands[i]).landNumber(0), (Integer) lands[i + 1]);
        }
        DesertJars x = Desk.at("S4");
        due("13: of a star's outer well", x.number(1, 100), 5);
        due("13: layings", x.number(1, 101), 2);
        due("13: the greatest", 1000 * x.number(1, 0) + 100 * x.number(1, 1) + 10 * x.number(1, 2) + x.number(1, 3), 31);
        due("13: of the middle", x.number(0, 100), 4);
        due("13: one at each other", x.number(0, 101) == 1 && x.number(0, 0) == 0 && x.number(0, 3) == 1, true);
        due("13: no such", Math.max(Math.max(x.number(4, 100), x.number(-1, 100)), Math.max(Math.max(x.number(0, 4), x.number(0, 99)),
            Math.max(x.number(0, 102), x.number(0, -1)))), NONE);
        DesertJars line = Desk.at("L7");
        due("13: more than 16 steps", line.number(0, 100), -4);
        due("13: 16 at most in the middle", line.number(3, 100), 15);
        due("13: seven at both ends", line.number(3, 101) == 1 && line.number(3, 0) == 7 && line.number(3, 6) == 7, true);
        due("13: three and fifteen", line.number(2, 100), 3 + 15 + 1);
        due("13: 16 steps", Desk.at("R8").number(3, 100), 16);
        due("13: 17 steps", Desk.at("S10").number(1, 100), -4);
        due("13: the middle is told", Desk.at("S10").number(0, 100), 10);
        due("13: no way ahead of too far", Desk.at("L12;a/b").number(5, 101), -2);
        due("13: no such ahead of no way", Desk.at("L12;a/b").number(5, 12), NONE);
        due("13: jars that lie do not matter", Desk.at("L3", "a9").number(0, 100), 4);
        DesertJars broom = Desk.at("L8;d/e;e/f;f/g;g/h;c-e;c-f;c-g;c-h");
        due("14: one well alone is not told", broom.landNumber(0), -4);
        due("14: not the next one", broom.number(0, 100) == -4 && broom.number(1, 100) > 0 && broom.number(7, 100) > 0, true);
        due("14: the lowest that has it", x.landNumber(1), 1);
        due("14: of a ring", Desk.at("R5").landNumber(1), 0);
        due("14: not told", Desk.at("L7").landNumber(1), -4);
        due("14: no way", Desk.at("L3;a/b").landNumber(1), -2);
        due("14: no wells", new DesertJars().landNumber(1), -3);
        due("14: no such what", Math.max(x.landNumber(2), x.landNumber(-1)), NONE);
        due("14: no such what without wells", new DesertJars().landNumber(2), NONE);
        due("14: a new land is asked anew", Desk.land(x, "L4") == 4 && x.landNumber(0) == 8 && x.number(3, 0) == 7, true);
    }

    private static void fewest() {
        Object[] lands = {"L1", 1, 1, "L2", 2, 3, "L3", 2, 1, "K5", 2, 5, "K7", 2, 7, "S7", 2, 1, "L3;a/b", 3, 3, "L2;a/b", 2, 1,
            "K4;a/b;a/c;a/d;b/c;b/d;c/d", 4, 1};
        for (int i = 0; i < lands.length; i += 3) {
            DesertJars x = Desk.at((String) lands[i]);
            due("15: of " + lands[i], x.fewest(100), (Integer) lands[i + 1]);
            due("15: layings of " + lands[i], x.fewest(101), (Integer) lands[i + 2]);
        }
        due("15: the greatest row", Desk.at("L2").fewest(0), 2);
        due("15: the greatest of L3;a/b", Desk.at("L3;a/b").fewest(0) * 10 + Desk.at("L3;a/b").fewest(1), 12);
        due("15: the middle", Desk.at("S7").fewest(0), 2);
        due("15: of a line of 7", Desk.at("L7").fewest(100), 5);
        due("15: 8 wells", Desk.at("K8").fewest(100), -4);
        due("15: 8 wells, of a well", Desk.at("K8").fewest(7), -4);
        due("15: no such ahead of it", Desk.at("K8").fewest(8), NONE);
        due("15: no wells", new DesertJars().fewest(101), -3);
        DesertJars x = Desk.at("L3");
        due("15: no such", Math.max(Math.max(x.fewest(3), x.fewest(-1)), Math.max(x.fewest(99), x.fewest(102))), NONE);
        due("15: a new land", Desk.land(x, "K2") == 2 && x.fewest(101) == 3, true);
    }

    private static void atOnce() {
        due("16: line", Desk.at("L3").atOnce(), 7);
        due("16: long line", Desk.at("L12").atOnce(), 4095);
        due("16: all", Desk.at("K12").atOnce(), 23);
        due("16: star", Desk.at("S4").atOnce(), 1 + 2 + 4 + 4);
        due("16: one", Desk.at("L1").atOnce(), 1);
        due("16: no way", Desk.at("L3;a/b").atOnce(), -2);
        due("16: no wells", new DesertJars().atOnce(), -3);
    }

    private static int paper(DesertJars x, int w, int... bytes) {
        Desk.feed(x, bytes);
        return x.paper(w);
    }

    private static int joined(DesertJars x, int w, int papers, int... bytes) {
        Desk.feed(x, bytes);
        return x.joined(w, papers);
    }

    private static void papers() {
        DesertJars x = Desk.at("L4");
        due("17: right", paper(x, 0, 9, 9, 0, 4, 1, 2, 2, 1), 7);
        due("17: half at most", paper(x, 0, 0, 0, 0, 4, 1, 3, 2, 1), -4);
        due("17: the great weight", paper(x, 0, 0, 0, 0, 255, 1, 127, 2, 63), 445);
        due("17: an odd parent's half", paper(x, 0, 0, 0, 0, 255, 1, 128, 2, 63), -4);
        due("17: not next", paper(x, 0, 0, 0, 0, 4, 0, 2, 2, 1), -4);
        due("17: itself as parent", paper(x, 0, 0, 0, 1, 4, 1, 2, 2, 1), -3);
        due("17: no such parent", paper(x, 0, 0, 0, 4, 4, 1, 2, 2, 1), -3);
        due("17: parent not in it", paper(x, 0, 0, 0, 0, 4, 1, 0, 2, 1), -5);
        due("17: not in it, parent does not matter", paper(x, 0, 0, 0, 0, 4, 77, 0, 77, 0), 4);
        due("17: none in it", paper(x, 0, 0, 0, 0, 0, 0, 0, 0, 0), 0);
        due("17: from the middle", paper(x, 1, 1, 8, 0, 0, 1, 9, 2, 4), 21);
        due("17: the first that is not right", paper(x, 1, 2, 8, 0, 0, 1, 9, 2, 5), -2);
        Desk.feed(x, 0, 0, 0, 4, 1, 2, 2, 1);
        due("17: no such well", Math.max(Math.max(x.paper(4), x.paper(-1)), x.paper(HIGH)), NONE);
        due("17: the tape stays", x.count(6), 20);
        due("17: right then", x.paper(0), 7);
        due("17: empty tape", x.paper(0), NONE);
        due("17: a tape that is too short", paperTooShort(), NONE);
        due("17: a tape that is just enough", paper(Desk.at("L10"), 0, 0, 0, 0, 2, 1, 1, 0, 0, 0, 0, 0, 0, 0, 0, 0, 0, 0, 0, 0, 0), 3);
        due("18: a tape that is just enough", joined(Desk.at("L5"), 0, 2, 0, 0, 0, 8, 1, 4, 2, 2, 3, 1, 0, 0, 0, 8, 1, 4, 2, 2, 3, 1),
            30 / 2 + 1);
        due("18: one", joined(x, 0, 1, 0, 0, 0, 4, 1, 2, 2, 1), 8);
        due("18: rounded down", joined(x, 0, 2, 0, 0, 0, 4, 1, 2, 2, 1, 0, 0, 0, 4, 1, 2, 2, 1), 14 / 2 + 1);
        due("18: down", joined(x, 0, 2, 0, 0, 0, 4, 1, 2, 2, 1, 0, 9, 0, 5, 1, 2, 2, 1), 15 / 2 + 1);
        due("18: no weight", joined(x, 0, 1, 0, 0, 0, 4, 1, 2, 0, 0), -100);
        due("18: weight by the other", joined(x, 1, 2, 1, 1, 0, 0, 0, 0, 0, 0, 0, 0, 0, 0, 1, 2, 2, 1), 4 / 1 + 1);
        due("18: not right ahead of no weight", joined(x, 0, 2, 0, 0, 0, 4, 1, 2, 0, 0, 0, 0, 0, 4, 1, 3, 0, 0), -4);
        due("18: the first paper", joined(x, 0, 2, 0, 0, 0, 4, 1, 2, 2, 2, 0, 0, 2, 4, 1, 3, 0, 0), -5);
        due("18: one well alone", joined(Desk.at("L1"), 0, 1, 5, 5), 1);
        Desk.feed(x, new int[20]);
        due("18: no such", Math.max(Math.max(x.joined(4, 1), x.joined(-1, 1)), Math.max(x.joined(0, 0), x.joined(0, 5))), NONE);
        due("18: too short", Math.max(x.joined(0, 3), x.joined(0, HIGH)), NONE);
        due("18: the tape stays", x.count(6), 20);
        due("18: then", x.joined(0, 2), -100);
        due("18: empty then", x.count(6), 0);
    }

    private static int paperTooShort() {
        DesertJars x = Desk.at("K12");
        Desk.feed(x, new int[20]);
        int answer = x.paper(0);
        due("17: it stays", x.count(6), 20);
        return answer;
    }

    private static void product() {
        Object[] texts = {"L2,L2", 0, "L2,L3", 0, "L1,L6", 0, "K3,L2", 0, "R5,L1", 0, "L3,L3", 1000000, "L7,L1", 1000000, "L1,L7", 1000000,
            "(L2*L2),L2", 0, "((L2)),((L2))", 0, "S4,L1", 0, "K3,K3", 0, "S4,L2", 0, "K3,L3", 3, "K6,L2", 0, "L4,L3", 1000000, "L2", -1002, "L2,", -1003, "L2;a/b,L2", -1002,
            "L2,L2;a-b", -1005, "L2,L2,L2", -1005, "L4,L4", -6003, "L4,L4x", -6003, "L4,L4*", -1006, "L4*L4,L2", -6003,
            "L2,L4*L4", -6006, "(L2,L2)", -1003, "L13,L2", -3001, "L2,R2", -3004, "L2,(((", -5005, "(((", -5002, "L2,L123", -2006,
            "((L2),L2", -1005, ",L2", -1000, "L", -1001, "x", -1000, "L2.L2", -1002};
        for (int i = 0; i < texts.length; i += 2) {
            DesertJars x = Desk.at("S5", "b3");
            x.number(1, 100);
            due("19: " + texts[i], Desk.product(x, (String) texts[i]), (Integer) texts[i + 1]);
            due("19: the land stays", x.count(1) == 5 && x.wellIs(1, 0) == 3 && x.steps(1, 2) == 2 && x.landNumber(0) == 6, true);
            due("19: the tape is empty", x.count(6), 0);
        }
        DesertJars x = new DesertJars();
        Desk.feed(x, Desk.bytes("L2,L2"));
        due("19: no such n", Math.max(Math.max(x.product(0), x.product(61)), Math.max(x.product(21), x.product(-5))), NONE);
        due("19: the tape stays", x.count(6), 20);
        due("19: without a land", x.product(5), 0);
    }

    private static void robbers() {
        DesertJars x = Desk.at("L3", "c4");
        due("20: too far", x.robbers(0), 0);
        due("20: next", x.robbers(1), 1);
        due("20: there", x.robbers(2), 1);
        due("20: no such", Math.max(Math.max(x.robbers(3), x.robbers(-1)), x.robbers(LOW)), NONE);
        Desk.laying(x, "b1c11");
        due("20: one next to it", x.robbers(0), 0);
        Desk.laying(x, "b2");
        due("20: two next to it", x.robbers(0), 1);
        Desk.laying(x, "a1");
        due("20: one there", x.robbers(0), 1);
        Desk.laying(x, "a0");
        due("20: none", x.robbers(0), 0);
        Desk.laying(x, "a13");
        due("20: 13 jars", x.robbers(0), -4);
        due("20: 9 wells", Desk.at("K9").robbers(0), -4);
        due("20: 8 wells", Desk.at("K8", "b1c1d1e1f1g1h1").robbers(0), 0);
        due("20: 9 wells, no such", Desk.at("K9").robbers(9), NONE);
        due("20: no wells", new DesertJars().robbers(0), NONE);
    }

    private static void ledger() {
        Object[] texts = {"a>b", 1, 2, 2, "a>b;a>b", 1, 0, 0, "a>b;a>b;b>c", 1, 0, 0, "?", 1, 2, 2, "?;?", 1, 0, 0, "?;?;?", 2, 0, 1,
            "b>c", 0, -2, -2, "a>b;?;b>c", 1, 0, 0, "a>b;?;b>a", 1, 1, 1, "a>b;a>b;a>b", 0, -2, -2, "?;b>a", 0, -2, -2,
            "?;?;b>a", 1, 1, 1, "b>a;?", 0, -2, -2};
        for (int i = 0; i < texts.length; i += 4) {
            for (int what = 0; what < 3; what++) {
                due("21: " + texts[i] + " " + what, Desk.ledger(Desk.at("L3", "a4"), (String) texts[i], what),
                    (Integer) texts[i + 1 + what]);
            }
        }
        DesertJars k = Desk.at("K12", "a40b40c40d40e40f40g40h40i40j40k40l40");
        due("21: many ways", Desk.ledger(k, "?;?;?", 0), 132 * 132 * 132);
        due("21: least", Desk.ledger(k, "?;?;?", 1), 34);
        due("21: most", Desk.ledger(k, "?;?;?", 2), 43);
        due("21: nothing is changed", k.count(3), 480);
        DesertJars x = Desk.at("L3", "a40");
        Object[] faults = {"x", -1000, "a", -1001, "a>", -1002, "a>c", -8002, "a>a", -8002, "d>a", -7000, "a>d", -7002, "a>m", -1002, "m>a",
            -1000, "?;?;?;?", -5006, "a>b;", -1004, "??", -1001, "a?b", -1001, "a>b,a>b", -1003, ";", -1000, "a-b", -1001,
            times("a>b", 10, ";") + ";a", -4040, times("a>b", 10, ";") + ";?", -4040, times("a>b", 10, ";") + ";l", -4040,
            times("a>b", 10, ";") + ";m", -1040, times("a>b", 10, ";") + ";", -1040,
            "?;?;?;" + times("a>b", 7, ";") + ";?", -4034};
        for (int i = 0; i < faults.length; i += 2) {
            due("21: fault of " + faults[i], Desk.ledger(x, (String) faults[i], 2), (Integer) faults[i + 1]);
            due("21: the tape is empty", x.count(6), 0);
        }
        due("21: ten lines", Desk.ledger(x, times("a>b", 10, ";"), 1), 20);
        x.queen(1);
        due("21: the queen's well", Desk.ledger(x, times("a>b", 10, ";"), 1), 10);
        due("21: room and law aside", x.room(1, 0) && Desk.ledger(x, "a>b", 0) == 1, true);
        due("21: a lost line without wells", Desk.ledger(new DesertJars(), "?", 0), 0);
        due("21: none without wells", Desk.ledger(new DesertJars(), "?", 1), -2);
        Desk.feed(x, Desk.bytes("a>b"));
        due("21: no such", Math.max(Math.max(x.ledger(0, 0), x.ledger(61, 0)), Math.max(Math.max(x.ledger(21, 0), x.ledger(3, 3)),
            x.ledger(3, -1))), NONE);
        due("21: the tape stays", x.count(6), 20);
    }

    private static void symmetries() {
        Object[] lands = {"L1", 1, "L2", 2, "L3", 2, "K4", 24, "K12", 479001600, "S5", 24, "S12", 39916800, "R6", 12, "L2*L2*L2", 48,
            "L2*L3", 4, "L4;b/c", 8, "K3*K3", 72, "R12", 24, "L12", 2, "K12;a/b", 2 * 3628800, "L6;b-e;a-d", 4, "L6;b-e", 2};
        for (int i = 0; i < lands.length; i += 2) {
            due("22: of " + lands[i], Desk.at((String) lands[i]).symmetries(100), (Integer) lands[i + 1]);
        }
        due("22: no wells", new DesertJars().symmetries(100), 1);
        due("22: middle of a star", Desk.at("S5").symmetries(0), 1);
        due("22: others of a star", Desk.at("S5").symmetries(3), 0b11110);
        due("22: corners", Desk.at("L2*L3").symmetries(0), 0b101101);
        due("22: sides", Desk.at("L2*L3").symmetries(4), 0b010010);
        due("22: ring and two rings", Desk.at("R6").symmetries(5), 0b111111);
        DesertJars x = Desk.at("L3");
        due("22: no such", Math.max(Math.max(x.symmetries(3), x.symmetries(-1)), Math.max(x.symmetries(99), x.symmetries(101))), NONE);
        due("22: no well", new DesertJars().symmetries(0), NONE);
    }

    private static void seeds() {
        DesertJars x = new DesertJars();
        due("23: 0", x.seed(0), true);
        due("23: X", x.count(7), 0);
        due("23: 65535", x.seed(65535), true);
        due("23: wrong", x.seed(65536) || x.seed(-1) || x.seed(LOW) || x.seed(HIGH), false);
        due("23: stays", x.count(7), 65535);
        x.days(1);
        due("23: goes on from it", x.count(7), drawn(65535, 1));
    }

    private static void keeping() {
        DesertJars x = Desk.at("L4", "a8d2");
        Desk.law(x, "e1(1=1)");
        due("25: none was kept", x.undo(), false);
        due("25: stays", x.wellIs(0, 0), 8);
        x.room(3, 5);
        x.queen(3);
        x.days(2);
        int draw = x.count(7);
        due("24: the day", x.keep(), 2);
        int a = x.wellIs(0, 0);
        x.days(3);
        x.room(3, 6);
        x.queen(1);
        due("25: undone", x.undo(), true);
        due("25: jars", x.wellIs(0, 0), a);
        due("25: room", x.wellIs(3, 1), 5);
        due("25: queen", x.count(4), 3);
        due("25: day", x.count(0), 2);
        due("25: X", x.count(7), draw);
        due("25: the law stays", x.count(5), 1);
        Desk.land(x, "L3");
        due("25: undone once more", x.undo(), true);
        due("25: wells that are not have none", x.count(3), a + x.wellIs(1, 0) + x.wellIs(2, 0));
        due("25: the queen at 0", x.count(4), 0);
        due("25: the land stays", x.count(1), 3);
        due("25: jars are back", x.wellIs(0, 0), a);
        Desk.land(x, "L5");
        x.undo();
        due("25: a well that was not", x.wellIs(4, 0), 0);
        due("25: its room", x.wellIs(4, 1), 40);
        due("25: d is back", x.wellIs(3, 0), 2);
        due("25: the queen is back", x.count(4), 3);
        DesertJars bare = new DesertJars();
        due("24: nothing yet", bare.keep(), 0);
        Desk.land(bare, "L2");
        Desk.laying(bare, "a3");
        due("25: as it was without wells", bare.undo() && bare.count(3) == 0 && bare.wellIs(1, 1) == 40, true);
    }

    private static void checks() {
        DesertJars x = Desk.at("L3", "a7c40");
        Desk.feed(x, 7, 0, 40, 255, 255, 255, 255, 255, 255, 255, 255, 255);
        due("26: right", x.check(12), NONE);
        due("26: the tape is empty", x.count(6), 0);
        Desk.feed(x, 7, 1, 41);
        due("26: the first", x.check(3), 1);
        Desk.feed(x, 7, 0, 40, 0);
        due("26: beyond", x.check(4), 3);
        Desk.feed(x, 9);
        due("26: none asked", x.check(0), NONE);
        due("26: empty then", x.count(6), 0);
        due("26: none on it", x.check(0), NONE);
        due("26: not so many", x.check(1), -2);
        Desk.feed(x, 7);
        due("26: no such n", Math.max(Math.max(x.check(13), x.check(-1)), Math.max(x.check(HIGH), x.check(LOW))), -2);
        due("26: the tape stays", x.count(6), 20);
        due("26: right then", x.check(1), NONE);
    }

    private static void counts() {
        DesertJars x = Desk.at("S4;b-c", "a3b4");
        Desk.law(x, "e1(1=2);r1(1=2)");
        x.queen(2);
        x.days(4);
        Desk.feed(x, 1);
        due("27: day", x.count(0), 4);
        due("27: wells", x.count(1), 4);
        due("27: stages", x.count(2), 4);
        due("27: jars", x.count(3), 7);
        due("27: queen", x.count(4), 2);
        due("27: rules", x.count(5), 2);
        due("27: tape", x.count(6), 20);
        due("27: X", x.count(7), drawn(1, 12));
        due("27: most steps", x.count(8), 2);
        due("27: one well", Desk.at("L1").count(8), 0);
        due("27: no way", Desk.at("L2;a/b").count(8), -2);
        due("27: none of these", Math.max(Math.max(x.count(9), x.count(-1)), Math.max(x.count(LOW), x.count(HIGH))), NONE);
    }

    public static void main(String[] args) {
        newObject();
        room();
        queen();
        feed();
        lawReading();
        landReading();
        laying();
        days();
        tried();
        wells();
        reach();
        numbers();
        fewest();
        atOnce();
        papers();
        product();
        robbers();
        ledger();
        symmetries();
        seeds();
        keeping();
        checks();
        counts();
        Desk.close("PromisesTest");
    }
}
