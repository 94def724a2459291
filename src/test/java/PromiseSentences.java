import java.util.function.BiConsumer;
import java.util.function.IntUnaryOperator;

/** The sentences of the promises, 1 to 27. What they have from "Terms" is tested there. */
final class PromiseSentences {
    private static final int NONE = Sentences.NONE;
    private static final int LOW = Sentences.LOW;
    private static final int HIGH = Sentences.HIGH;
    private static final String SIXTY_BYTES = Sentences.times("L1", 17, "*") + "*K3,L01*L3";
    private static final int[] NO_WELLS = {6, 7, 11, 12, -1, LOW, HIGH};

    private PromiseSentences() {
    }

    private static void says(int promise, String words) {
        Sentences.says(promise, words);
    }

    private static void due(String call, long got, long want) {
        Sentences.due(call, got, want);
    }

    private static void due(String call, boolean got, boolean want) {
        Sentences.due(call, got, want);
    }

    private static String times(String text, int n, String between) {
        return Sentences.times(text, n, between);
    }

    private static void newObject() {
        says(1, "No WELLS, LAW; THE SEED 1.");
        DesertJars x = new DesertJars();
        int[] counts = {0, 0, 0, 0, 0, 0, 0, 1, 0};
        for (int what = 0; what < counts.length; what++) {
            due("count " + what, x.count(what), counts[what]);
        }
        due("no WELL", x.wellIs(0, 0), NONE);
        due("no WELL to lay at", Desk.laying(x, "a1"), -7000);
        due("nothing KEPT", x.undo(), false);
        due("no stages gone", x.days(5), 0);
        due("DRAWS from 1 on", x.count(7), Sentences.drawn(1, 5));
    }

    private static void roomAndQueen() {
        says(2, "ROOM at a WELL (JARS beyond it stay): true;");
        for (int room = 0; room <= 40; room++) {
            DesertJars x = Desk.at("L3", "a7b40");
            due("room(1, " + room + ")", x.room(1, room), true);
            due("ROOM", x.wellIs(1, 1), room);
            Sentences.dueText("JARS stay", Sentences.jars(x), "7 40 0");
            due("ROOM elsewhere", x.wellIs(0, 1) == 40 && x.wellIs(2, 1) == 40, true);
        }
        DesertJars x = Desk.at("L2", "a7");
        x.room(0, 0);
        Desk.law(x, "e1(g=1)");
        due("carriers go from beyond it", x.days(1), 1);
        due("the first WELL and the last", Desk.at("K12").room(0, 3) && Desk.at("K12").room(11, 3), true);

        says(2, "false: no such ones.");
        for (int w : NO_WELLS) {
            Sentences.refusedFalse("room(" + w + ", 5)", y -> y.room(w, 5));
        }
        for (int jars : new int[] {41, 42, -1, 255, LOW, HIGH}) {
            Sentences.refusedFalse("room(0, " + jars + ")", y -> y.room(0, jars));
        }
        due("without WELLS", new DesertJars().room(0, 5), false);

        says(3, "THE QUEEN's WELL: true;");
        x = Desk.at("K12");
        for (int w = 0; w < 12; w++) {
            due("queen(" + w + ")", x.queen(w), true);
            due("she is there", x.count(4), w);
        }

        says(3, "false: no such WELL.");
        for (int w : NO_WELLS) {
            Sentences.refusedFalse("queen(" + w + ")", y -> y.queen(w));
        }
        due("12 of 12", Desk.at("K12").queen(12), false);
        due("without WELLS", new DesertJars().queen(0), false);
    }

    private static void feed() {
        says(4, "Twenty bytes come behind the tape, the highest of each int first: how many it has;");
        DesertJars x = Desk.at("K12", "a1b2c3d4e5f6g7h8i9j10k11l12");
        due("the first twenty", x.feed(0x01020304, 0x05060708, 0x090A0B0C, -1, LOW), 20);
        due("twelve of them", x.check(12), NONE);
        x = new DesertJars();
        due("feed", x.feed(0x4C312A4C, 0x312A4C31, 0x2A4C312A, 0x4C312A4C, 0x312A4C31), 20);
        due("behind the tape", x.feed(0x2A4C312A, 0x4C330000, -1, 0, 0), 40);
        due("as one text, L1*L1*..*L3", x.land(26), 3);
        DesertJars y = Desk.at("L2*R3;a/b");
        y.feed(0x00FF80C8, 0, 0, 0, 0);
        due("bytes above 127", y.check(1), NONE);
        DesertJars z = Desk.at("L1", "a5");
        z.feed(0x05FFFFFF, -1, -1, 0, 0);
        due("255", z.check(12), NONE);

        says(4, "NONE if that would be more than 260.");
        x = Desk.at("L1", "a5");
        for (int i = 1; i <= 13; i++) {
            due("feed " + i, x.feed(i == 1 ? 0x05FFFFFF : 0, -1, -1, 0, 0), 20 * i);
        }
        due("the 14th", x.feed(0, 0, 0, 0, 0), NONE);
        due("and once more", x.feed(HIGH, LOW, -1, 1, 2), NONE);
        due("260", x.count(6), 260);
        due("what was fed stays", x.check(12), NONE);
        due("empty then", x.count(6), 0);
        due("from the front again", x.feed(0x05FFFFFF, -1, -1, 0, 0), 20);
        due("read from the front", x.check(12), NONE);
    }

    /** What law, land, laying, product have in common: the first n bytes, NONE for no such n, a FAULT by which all stays. */
    private static void firstBytes(int most, IntUnaryOperator onTwenty) {
        for (int n : new int[] {0, -1, most + 1, most + 2, 21, LOW, HIGH}) {
            due("n " + n, onTwenty.applyAsInt(n), NONE);
        }
    }

    private static void law() {
        says(5, "THE LAW by the first n bytes of the tape (1 to 240; empty then), in place of the one before: how many RULES;");
        DesertJars x = Desk.at("L2", "a9");
        Desk.feed(x, Desk.bytes("e1(1=1);c5(1=1);x(1=1)"));
        due("7 of 40 bytes", x.law(7), 1);
        due("empty then", x.count(6), 0);
        due("RULES", x.count(5), 1);
        due("goes at 2", x.tried(1, 10), 7);
        Desk.feed(x, Desk.bytes("e1(1=1);c5(1=1);x(1=1)"));
        due("15 bytes", x.law(15), 2);
        due("goes at 5", x.tried(1, 10), 4);
        Desk.feed(x, Desk.bytes("e1(1=1);c5(1=1);x(1=1)"));
        due("22 bytes", x.law(22), 3);
        due("none goes", x.tried(1, 10), 9);
        due("in place of the one before", Desk.law(x, "e1(1=1)"), 1);
        due("one RULE", x.count(5), 1);
        due("nothing of the one before holds", x.tried(1, 10), 7);
        due("1 byte", Desk.law(x, "e"), -1001);
        due("240 bytes", Desk.law(x, "e1(1=1" + times("&1=1", 57, "") + "&1=01)"), 1);
        due("240 bytes hold", x.tried(1, 0), 1);
        for (int cost = 2; cost <= 9; cost++) {
            due("one after the other", Desk.law(x, "c" + cost + "(1=1);e1(1=1" + times("&1=1", 56, "") + ")"), 2);
            due("the last one holds", x.tried(1, 10), 9 - cost);
        }
        due("20 of 20 bytes", Desk.law(x, "e1(1=1&1=1&1=1&1=01)"), 1);

        says(5, "a FAULT: -1000 times its number, less its place (the one before stays);");
        Sentences.stays("fault 1", y -> Desk.law(y, "e1(1=1)~"), -1007, true);
        Sentences.stays("fault 1 at 0", y -> Desk.law(y, "~"), -1000, true);
        Sentences.stays("fault 1 at the end", y -> Desk.law(y, "e1(1=1);x(1=1);r3"), -1017, true);
        Sentences.stays("fault 2", y -> Desk.law(y, "e123456(1=1)"), -2006, true);
        Sentences.stays("fault 4", y -> Desk.law(y, times("x(1=1)", 17, ";")), -4112, true);
        Sentences.stays("fault 5", y -> Desk.law(y, "x(((((((1=1)))))))"), -5007, true);
        Sentences.stays("fault at 239", y -> Desk.law(y, "x(1" + times("=1&1", 59, "") + "~"), -1239, true);
        Sentences.stays("the end of 240", y -> Desk.law(y, "x(1" + times("=1&1", 59, "") + "="), -1240, true);
        DesertJars bare = new DesertJars();
        due("without one before", Desk.law(bare, "e1(1=1);x"), -1009);
        due("there is none then", bare.count(5), 0);

        says(5, "NONE: no such n, it has not so many (the tape stays).");
        firstBytes(240, n -> onTwenty("e1(1=1)").law(n));
        for (int n : new int[] {0, -1, 21, 241, LOW, HIGH}) {
            Sentences.refused("law(" + n + ")", y -> y.law(n));
        }
        due("not so many: none", new DesertJars().law(1), NONE);
        DesertJars full = new DesertJars();
        for (int i = 0; i < 13; i++) {
            full.feed(0, 0, 0, 0, 0);
        }
        due("241 of 260", full.law(241), NONE);
        due("260 stay", full.count(6), 260);
        due("240 of 260", full.law(240), -1000);
    }

    /** A desert of L2 with twenty bytes on the tape. */
    private static DesertJars onTwenty(String text) {
        DesertJars x = Desk.at("L2", "a9");
        Desk.feed(x, Desk.bytes(text));
        due("bytes", x.count(6), 20);
        return x;
    }

    private static void land() {
        says(6, "THE LAND by the first n bytes of the tape (1 to 60; empty then): how many WELLS;");
        DesertJars x = new DesertJars();
        Desk.feed(x, Desk.bytes("L2*L3*L2;a/b"));
        due("2 bytes", x.land(2), 2);
        due("empty then", x.count(6), 0);
        Desk.feed(x, Desk.bytes("L2*L3*L2;a/b"));
        due("5 bytes", x.land(5), 6);
        Desk.feed(x, Desk.bytes("L2*L3*L2;a/b"));
        due("12 bytes", x.land(12), 12);
        due("stages", x.count(2), 19);
        due("1 byte", Desk.land(x, "L"), -1001);
        due("60 bytes", Desk.land(x, times("L1", 19, "*") + "*K11"), 11);
        due("20 of 20", Desk.land(x, "L1*L1*L1*L1*L1*L1*L2"), 2);
        due("one after the other", Desk.land(x, "K3") == 3 && x.count(1) == 3 && x.count(2) == 3, true);

        says(6, "a FAULT (all stays);");
        Object[] faults = {"L3x", -1002, "L123", -2003, "L13", -3001, "K12" + times(";a/b", 11, ""), -4044, "(((L1)))", -5002, "L4*L4", -6003,
            "L3;d-a", -7003, "L3;b-b", -8005, "K12;a/b;a/c;", -1012, "L1;", -1003};
        for (int i = 0; i < faults.length; i += 2) {
            String text = (String) faults[i];
            Sentences.stays("land " + text, y -> Desk.land(y, text), (Integer) faults[i + 1], true);
        }
        DesertJars told = Desk.at("S5");
        due("NUMBERS are those of the one that stays", told.landNumber(0) == 6 && Desk.land(told, "K12x") == -1003 && told.landNumber(0) == 6
            && told.number(1, 101) == 3 && told.fewest(100) == 2 && told.symmetries(100) == 24, true);

        says(6, "NONE: as above.");
        firstBytes(60, n -> onTwenty("K3").land(n));
        for (int n : new int[] {0, -1, 21, 61, LOW, HIGH}) {
            Sentences.refused("land(" + n + ")", y -> y.land(n));
        }
        due("not so many: none", new DesertJars().land(1), NONE);
    }

    private static void laying() {
        says(7, "A LAYING by the first n bytes of the tape (1 to 60; empty then): how many JARS;");
        DesertJars x = Desk.at("L3");
        Desk.feed(x, Desk.bytes("a40b12c3"));
        due("2 bytes", x.laying(2), 4);
        due("empty then", x.count(6), 0);
        Desk.feed(x, Desk.bytes("a40b12c3"));
        due("3 bytes", x.laying(3), 40);
        Desk.feed(x, Desk.bytes("a40b12c3"));
        due("8 bytes", x.laying(8), 55);
        Sentences.dueText("JARS", Sentences.jars(x), "40 12 3");
        due("no JARS", Desk.laying(x, "a0"), 0);
        due("1 byte", Desk.laying(x, "a"), -1001);
        due("60 bytes", Desk.laying(Desk.at("K12"), "a10b10c10d10e10f10g10h10i10j10k10l10" + times("a", 24, "")), -6036);
        x.room(0, 3);
        x.queen(2);
        due("beyond ROOM", Desk.laying(x, "a9"), 9);
        due("ROOM, THE QUEEN stay", x.wellIs(0, 1) == 3 && x.count(4) == 2, true);

        says(7, "a FAULT (all stays);");
        Object[] faults = {"a1~", -1002, "a1b", -1003, "a123", -2003, "a41", -3001, "b5a41", -3003, "b5b5", -6002, "a1g1", -7002};
        for (int i = 0; i < faults.length; i += 2) {
            String text = (String) faults[i];
            Sentences.stays("laying " + text, y -> Desk.laying(y, text), (Integer) faults[i + 1], true);
        }

        says(7, "NONE: as above.");
        firstBytes(60, n -> onTwenty("a5").laying(n));
        for (int n : new int[] {0, -1, 21, 61, LOW, HIGH}) {
            Sentences.refused("laying(" + n + ")", y -> y.laying(n));
        }
        due("not so many: none", Desk.at("L2").laying(1), NONE);
    }

    private static void daysAndTried() {
        says(8, "DAYS (1 to 100; as many as can) go by: how many stages were gone;");
        for (int n : new int[] {1, 2, 5, 19, 20, 21, 99, 100}) {
            DesertJars x = Desk.at("L2", "a40");
            Desk.law(x, "e1(g=1)");
            due("stages in " + n, x.days(n), Math.min(n, 20));
            due("DAYS", x.count(0), n);
        }
        DesertJars last = Desk.at("L2", "a40");
        for (int i = 0; i < 99; i++) {
            last.days(100);
        }
        last.days(90);
        Desk.law(last, "e1(g=1)");
        due("as many as can are tried", last.tried(100, 0), 9);
        due("as many as can", last.days(100), 9);
        due("to 9999", last.count(0), 9999);

        says(8, "NONE: no such n.");
        for (int n : new int[] {0, -1, 101, 102, LOW, HIGH}) {
            Sentences.refused("days(" + n + ")", y -> y.days(n));
            due("without WELLS", new DesertJars().days(n), NONE);
        }

        says(9, "DAYS (1 to 100; as many as can) that are tried, what 0 stages gone, 1 JARS robbed, 2 JARS of all then, 10 + w those at WELL w"
            + " then;");
        DesertJars x = Desk.at("L3", "a4c1");
        Desk.law(x, "e9(g>f);r10(f=2)");
        // c is robbed, a goes; a goes; b goes and c is robbed; all are gone then.
        due("stages", 1000 * x.tried(1, 0) + 100 * x.tried(2, 0) + 10 * x.tried(3, 0) + x.tried(100, 0), 1233);
        due("robbed", 1000 * x.tried(1, 1) + 100 * x.tried(2, 1) + 10 * x.tried(3, 1) + x.tried(100, 1), 1122);
        due("JARS of all", 1000 * x.tried(1, 2) + 100 * x.tried(2, 2) + 10 * x.tried(3, 2) + x.tried(100, 2), 3200);
        due("JARS at a", 100 * x.tried(1, 10) + 10 * x.tried(2, 10) + x.tried(3, 10), 200);
        due("JARS at b", 100 * x.tried(1, 11) + 10 * x.tried(2, 11) + x.tried(3, 11), 120);
        due("JARS at c", 100 * x.tried(1, 12) + 10 * x.tried(2, 12) + x.tried(3, 12), 0);
        due("the last of twelve", Desk.at("K12", "l7").tried(1, 21), 7);
        due("as many as can", last.tried(100, 0) + last.tried(1, 1), 0);

        says(9, "NONE: no such ones.");
        for (int n : new int[] {0, -1, 101, LOW, HIGH}) {
            Sentences.refused("tried(" + n + ", 0)", y -> y.tried(n, 0));
            Sentences.refused("tried(" + n + ", 10)", y -> y.tried(n, 10));
        }
        for (int what : new int[] {-1, 3, 4, 9, 16, 17, 21, 22, 100, LOW, LOW + 9, HIGH}) {
            Sentences.refused("tried(1, " + what + ")", y -> y.tried(1, what));
        }
        due("no WELLS", new DesertJars().tried(1, 10), NONE);
        due("no WELLS, stages", new DesertJars().tried(1, 0), 0);
        due("22 of twelve", Desk.at("K12").tried(1, 22), NONE);
    }

    private static void wells() {
        says(10, "Of a WELL, what 0 JARS, 1 ROOM, 2 WELLS NEXT to it (bits), 3 steps to THE QUEEN (-2: no way);");
        DesertJars x = Desk.at("L4;c/d", "b6d40");
        x.room(1, 9);
        x.queen(2);
        int[][] all = {{0, 40, 0b0010, 2}, {6, 9, 0b0101, 1}, {0, 40, 0b0010, 0}, {40, 40, 0, -2}};
        for (int w = 0; w < 4; w++) {
            for (int what = 0; what < 4; what++) {
                due("wellIs(" + w + ", " + what + ")", x.wellIs(w, what), all[w][what]);
            }
        }
        due("eleven steps", Desk.at("L12").wellIs(11, 3), 11);
        due("eleven WELLS", Desk.at("K12").wellIs(0, 2), 0b111111111110);

        says(10, "NONE for others.");
        for (int w : NO_WELLS) {
            for (int what = 0; what < 4; what++) {
                int asked = what;
                Sentences.refused("wellIs(" + w + ", " + what + ")", y -> y.wellIs(w, asked));
            }
        }
        for (int what : new int[] {-1, 4, 5, LOW, HIGH}) {
            Sentences.refused("wellIs(0, " + what + ")", y -> y.wellIs(0, what));
        }
        due("without WELLS", new DesertJars().wellIs(0, 1), NONE);

        says(11, "Steps between two WELLS (any);");
        for (int p = 0; p < 12; p++) {
            for (int q = 0; q < 12; q++) {
                int apart = Math.abs(p - q);
                due("in L12", Desk.at("L12").steps(p, q), apart);
                due("in R12", Desk.at("R12").steps(p, q), Math.min(apart, 12 - apart));
                due("in K12", Desk.at("K12").steps(p, q), p == q ? 0 : 1);
                due("in S12", Desk.at("S12").steps(p, q), p == q ? 0 : p == 0 || q == 0 ? 1 : 2);
                due("in L3*L4", Desk.at("L3*L4").steps(p, q), Math.abs(p / 4 - q / 4) + Math.abs(p % 4 - q % 4));
            }
        }

        says(11, "-2: no way;");
        due("no way", Desk.at("L4;b/c").steps(1, 2), -2);
        due("nor back", Desk.at("L4;b/c").steps(2, 1), -2);
        due("on the one side", Desk.at("L4;b/c").steps(0, 1), 1);
        due("on the other", Desk.at("L4;b/c").steps(2, 3), 1);
        due("to itself", Desk.at("L2;a/b").steps(1, 1), 0);

        says(11, "NONE: no such ones.");
        for (int w : NO_WELLS) {
            Sentences.refused("steps(" + w + ", 0)", y -> y.steps(w, 0));
            Sentences.refused("steps(0, " + w + ")", y -> y.steps(0, w));
            Sentences.refused("steps(" + w + ", " + w + ")", y -> y.steps(w, w));
        }
        due("without WELLS", new DesertJars().steps(0, 0), NONE);
    }

    private static void reach() {
        says(12, "REACH k (1 to 40) at a WELL, FROM BOTH SIDES or not, what 0 how many MOVES, 1 the first MOVE (from, the other from or the same, to:"
            + " 256 times, 16 times, one time; none needed: -3);");
        DesertJars x = Desk.at("K8", "g2h10");
        due("k 1", x.reach(0, 1, false, 0), 1);
        due("k 6", x.reach(0, 6, false, 0), 6);
        due("k 7", x.reach(0, 7, false, 0), -2);
        due("k 40", x.reach(7, 40, false, 0), -2);
        due("k 10, none needed", x.reach(7, 10, false, 0), 0);
        due("k 10, none needed, first", x.reach(7, 10, true, 1), -3);
        due("first: two of one WELL", x.reach(0, 1, false, 1), 256 * 6 + 16 * 6);
        due("first: two of one WELL, from both sides", x.reach(0, 1, true, 1), 256 * 6 + 16 * 6);
        Desk.laying(x, "f1h1");
        due("first: from two", x.reach(4, 1, true, 1), 256 * 5 + 16 * 7 + 4);
        due("from one it can't be", x.reach(4, 1, false, 1), -2);
        DesertJars line = Desk.at("L8", "h4");
        due("first to the last but one", line.reach(5, 1, false, 1), 256 * 7 + 16 * 7 + 6);

        says(12, "-2: it can't be;");
        for (int what = 0; what < 2; what++) {
            due("no way", Desk.at("L3;a/b", "b12").reach(0, 1, true, what), -2);
            due("no JARS", Desk.at("L3").reach(0, 1, true, what), -2);
            due("too few", Desk.at("L3", "c3").reach(0, 1, true, what), -2);
            due("one too few", Desk.at("L3", "a11").reach(0, 12, true, what), -2);
        }

        says(12, "-4 as above;");
        for (int what = 0; what < 2; what++) {
            due("9 WELLS", Desk.at("K9", "a2").reach(1, 1, false, what), -4);
            due("13 JARS", Desk.at("K8", "a13").reach(1, 1, false, what), -4);
            due("13 JARS, none needed", Desk.at("K8", "a13").reach(0, 1, false, what), -4);
            due("9 WELLS, it can't be", Desk.at("K9").reach(0, 1, false, what), -4);
            due("8 WELLS, 12 JARS", Desk.at("K8", "a12").reach(1, 1, false, what), 1);
        }

        says(12, "NONE: no such ones.");
        for (int w : NO_WELLS) {
            Sentences.refused("reach(" + w + ", 1, false, 0)", y -> y.reach(w, 1, false, 0));
        }
        for (int k : new int[] {0, -1, 41, LOW, HIGH}) {
            Sentences.refused("reach(0, " + k + ", true, 0)", y -> y.reach(0, k, true, 0));
        }
        for (int what : new int[] {-1, 2, LOW, HIGH}) {
            Sentences.refused("reach(0, 1, false, " + what + ")", y -> y.reach(0, 1, false, what));
        }
        due("9 WELLS, no such", Desk.at("K9").reach(9, 1, false, 0), NONE);
        due("13 JARS, no such k", Desk.at("K9", "a13").reach(0, 41, false, 0), NONE);
        due("without WELLS", new DesertJars().reach(0, 1, false, 0), NONE);
    }

    /** What is asked of one land after the other must be told as of one that is the first. */
    private static void oneAfterTheOther(String what, BiConsumer<DesertJars, StringBuilder> asked) {
        DesertJars x = new DesertJars();
        for (String land : new String[] {"K5", "L4", "R6", "S5", "L2*L3", "L6;b-e", "L2", "L5;a-c", "R7", "L1", "K4;a/b"}) {
            StringBuilder one = new StringBuilder();
            StringBuilder other = new StringBuilder();
            Desk.land(x, land);
            asked.accept(x, one);
            asked.accept(x, one);
            DesertJars fresh = Desk.at(land);
            asked.accept(fresh, other);
            asked.accept(fresh, other);
            Sentences.dueText(what + " of " + land, one.toString(), other.toString());
            // A run has at most 512 calls.
            x = land.equals("S5") || land.equals("L5;a-c") ? new DesertJars() : x;
        }
    }

    private static void number() {
        says(13, "THE NUMBER of a WELL, what 100 it, 101 how many layings, else JARS at WELL what in that one;");
        DesertJars x = Desk.at("S5");
        due("it", x.number(1, 100), 6);
        due("layings", x.number(1, 101), 3);
        due("row", 10000 * x.number(1, 0) + 1000 * x.number(1, 1) + 100 * x.number(1, 2) + 10 * x.number(1, 3) + x.number(1, 4), 311);
        due("another WELL's", x.number(4, 100) == 6 && x.number(4, 1) == 3, true);
        due("asked again", x.number(1, 100) == 6 && x.number(1, 2) == 3, true);
        due("the last of twelve", Desk.at("K12").number(0, 11), 1);
        due("JARS that lie do not matter", Desk.at("L3", "a40b40c40").number(0, 100), 4);
        Desk.land(x, "L3");
        due("of a new land", x.number(1, 100) == 3 && x.number(1, 101) == 1 && x.number(1, 2) == 1, true);

        oneAfterTheOther("numbers", (y, all) -> {
            int wells = y.count(1);
            for (int w = 0; w < wells; w++) {
                all.append(y.number(w, 100)).append('/').append(y.number(w, 101)).append(':');
                for (int v = 0; v < wells; v++) {
                    all.append(y.number(w, v)).append(' ');
                }
            }
        });

        says(13, "-2 ahead of -4 as above;");
        for (int what : new int[] {100, 101, 0, 11}) {
            due("no way and too far", Desk.at("L12;a/b").number(5, what), -2);
            due("no way and too far, the other way", Desk.at("L12;k/l").number(0, what), -2);
            due("too far", Desk.at("L12").number(5, what), -4);
        }
        due("no way", Desk.at("L2;a/b").number(0, 100), -2);
        due("16 steps", Desk.at("R8").number(0, 101), 2);
        due("17 steps", Desk.at("S10").number(9, 0), -4);

        says(13, "NONE: no such ones.");
        for (int w : NO_WELLS) {
            Sentences.refused("number(" + w + ", 100)", y -> y.number(w, 100));
            Sentences.refused("number(0, " + w + ")", y -> y.number(0, w));
        }
        for (int what : new int[] {99, 102, 103, 200}) {
            Sentences.refused("number(0, " + what + ")", y -> y.number(0, what));
        }
        due("no such, no way", Desk.at("L2;a/b").number(0, 2), NONE);
        due("no such, too far", Desk.at("L11").number(0, 11), NONE);
        due("without WELLS", new DesertJars().number(0, 100), NONE);
    }

    private static void landNumber() {
        says(14, "THE LAND's NUMBER, what 0 it, 1 the lowest WELL that has it;");
        Object[] lands = {"L1", 1, 0, "L4", 8, 0, "S4", 5, 1, "K7", 7, 0, "R6", 8, 0, "L6;b-e", 10, 0, "L3;b/c;a-c", 4, 1};
        for (int i = 0; i < lands.length; i += 3) {
            DesertJars x = Desk.at((String) lands[i]);
            due("WELL of " + lands[i], x.landNumber(1), (Integer) lands[i + 2]);
            due("of " + lands[i], x.landNumber(0), (Integer) lands[i + 1]);
            due("WELL of " + lands[i] + " again", x.landNumber(1), (Integer) lands[i + 2]);
        }

        oneAfterTheOther("NUMBERS of lands", (y, all) -> all.append(y.landNumber(0)).append('/').append(y.landNumber(1)));

        says(14, "-2, -4: as of the first WELL that tells so;");
        for (int what = 0; what < 2; what++) {
            due("no way", Desk.at("L2;a/b").landNumber(what), -2);
            due("no way, and too far", Desk.at("L12;a/b").landNumber(what), -2);
            due("too far", Desk.at("L7").landNumber(what), -4);
            due("too far from the last one alone", Desk.at("L8;a/b;b/c;c/d;d/e;a-e;b-e;c-e;d-e").landNumber(what), -4);
            due("16 at most", Desk.at("R8").landNumber(what), what == 0 ? 16 : 0);
            due("S9: 15 at most", Desk.at("S9").landNumber(what), what == 0 ? 10 : 1);
            due("S10: 17", Desk.at("S10").landNumber(what), -4);
        }
        DesertJars head = Desk.at("L8;d/e;e/f;f/g;g/h;c-e;c-f;c-g;c-h");
        due("too far from the first one alone", head.landNumber(0), -4);
        due("all but the first are told", head.number(0, 100) == -4 && head.number(1, 100) > 0 && head.number(7, 100) > 0, true);
        DesertJars tail = Desk.at("L8;a/b;b/c;c/d;d/e;a-e;b-e;c-e;d-e");
        due("all but the last are told", tail.number(0, 100) > 0 && tail.number(6, 100) > 0 && tail.number(7, 100) == -4, true);

        says(14, "-3: no WELLS;");
        due("it", new DesertJars().landNumber(0), -3);
        due("the WELL", new DesertJars().landNumber(1), -3);

        says(14, "NONE: no such what.");
        for (int what : new int[] {-1, 2, 100, LOW, HIGH}) {
            Sentences.refused("landNumber(" + what + ")", y -> y.landNumber(what));
            due("without WELLS", new DesertJars().landNumber(what), NONE);
            due("no way", Desk.at("L2;a/b").landNumber(what), NONE);
        }
    }

    private static void fewest() {
        says(15, "THE FEWEST, what 100 how many, 101 how many layings, else JARS at WELL what in that one;");
        DesertJars x = Desk.at("L4");
        due("JARS at c, asked first", x.fewest(2), 2);
        due("it", x.fewest(100), 3);
        due("layings", x.fewest(101), 4);
        due("row", 1000 * x.fewest(0) + 100 * x.fewest(1) + 10 * x.fewest(2) + x.fewest(3), 1020);
        Desk.land(x, "K7");
        due("of a new land", 100 * x.fewest(100) + 10 * x.fewest(101) + x.fewest(0), 272);
        due("the last of seven", x.fewest(6), 0);
        due("JARS that lie do not matter", Desk.at("L3", "a40b40c40").fewest(100), 2);

        oneAfterTheOther("FEWEST", (y, all) -> {
            all.append(y.fewest(100)).append('/').append(y.fewest(101)).append(':');
            for (int v = 0; v < y.count(1); v++) {
                all.append(y.fewest(v)).append(' ');
            }
        });

        says(15, "-3: no WELLS;");
        due("it", new DesertJars().fewest(100), -3);
        due("layings", new DesertJars().fewest(101), -3);

        says(15, "-4 as above;");
        for (int what : new int[] {100, 101, 0, 7}) {
            due("8 WELLS, " + what, Desk.at("K8").fewest(what), -4);
            due("12 WELLS, " + what, Desk.at("K12").fewest(what), -4);
        }
        due("7 WELLS", Desk.at("R7").fewest(100), 5);

        says(15, "NONE: no such ones.");
        for (int what : new int[] {6, 7, 12, 99, 102, -1, LOW, HIGH}) {
            Sentences.refused("fewest(" + what + ")", y -> y.fewest(what));
        }
        due("8 WELLS", Desk.at("K8").fewest(8), NONE);
        due("12 WELLS", Desk.at("K12").fewest(102), NONE);
        due("without WELLS", new DesertJars().fewest(102), NONE);
    }

    private static void atOnce() {
        says(16, "AT EACH AT ONCE;");
        due("L4", Desk.at("L4").atOnce(), 15);
        due("L1", Desk.at("L1").atOnce(), 1);
        due("S5, from an end", Desk.at("S5").atOnce(), 1 + 2 + 3 * 4);
        due("JARS that lie do not matter", Desk.at("L2", "a40").atOnce(), 3);

        says(16, "-2: there is no way from some to some;");
        due("L2", Desk.at("L2;a/b").atOnce(), -2);
        due("the last of K12", Desk.at("K4*K3;a/b;a/c;a/d;a/g;a/j").atOnce(), -2);
        due("halves", Desk.at("L12;f/g").atOnce(), -2);

        says(16, "-3: no WELLS.");
        due("none", new DesertJars().atOnce(), -3);
    }

    private static int paper(DesertJars x, int w, int... bytes) {
        Desk.feed(x, bytes);
        return x.paper(w);
    }

    private static int joined(DesertJars x, int w, int papers, int... bytes) {
        Desk.feed(x, bytes);
        return x.joined(w, papers);
    }

    private static void papers() {
        says(17, "A PAPER for a WELL by the first two bytes of each WELL on the tape (parent, weight; empty then): so much;");
        DesertJars x = Desk.at("L4", "a3");
        due("so much", paper(x, 0, 0, 0, 0, 4, 1, 2, 2, 1), 7);
        due("empty then", x.count(6), 0);
        due("what is behind does not matter", paper(x, 3, 1, 1, 2, 2, 3, 9, 0, 0, 255, 255), 12);
        due("none in it", paper(x, 0, 0, 0, 0, 0, 0, 0, 0, 0), 0);
        due("20 bytes are enough for 10 WELLS", paper(Desk.at("S10"), 0, 0, 0, 0, 1, 0, 2, 0, 3, 0, 4, 0, 5, 0, 6, 0, 7, 0, 8, 0, 9), 45);
        due("24 bytes for 12 WELLS", paper(Desk.at("S12"), 0, 0, 0, 0, 1, 0, 2, 0, 3, 0, 4, 0, 5, 0, 6, 0, 7, 0, 8, 0, 9, 0, 10, 0, 255), 310);

        says(17, "-2 less the first WELL that is not right;");
        for (int wrong = 1; wrong < 12; wrong++) {
            int[] bytes = new int[24];
            for (int w = 1; w < 12; w++) {
                bytes[2 * w] = w >= wrong ? 12 : 0;
                bytes[2 * w + 1] = 1;
            }
            DesertJars star = Desk.at("S12");
            due("WELL " + wrong, paper(star, 0, bytes), -2 - wrong);
            due("empty then", star.count(6), 0);
        }
        due("WELL 0", paper(x, 1, 2, 1, 0, 0, 1, 1, 2, 9), -2);
        Sentences.stays("all stays", y -> paper(y, 1, 9, 9, 9, 9, 9, 9), -2, true);

        says(17, "NONE: no such WELL, the tape has not so many (it stays).");
        for (int w : NO_WELLS) {
            Sentences.refused("paper(" + w + ")", y -> y.paper(w));
        }
        due("none on the tape", Desk.at("L1").paper(0), NONE);
        due("without WELLS", new DesertJars().paper(0), NONE);
        DesertJars eleven = Desk.at("K11");
        due("22 bytes, but 20", paper(eleven, 0, 0, 0), NONE);
        due("it stays", eleven.count(6), 20);
        eleven.feed(0, 0, 0, 0, 0);
        due("40 are enough", eleven.paper(0), 0);
    }

    private static void joinedPapers() {
        says(18, "PAPERS JOINED, so many (1 to 4), one behind the other on the tape (empty then), for a WELL: no NUMBER is higher than this;");
        DesertJars x = Desk.at("L4", "a3");
        int[] one = {0, 0, 0, 4, 1, 2, 2, 1};
        for (int papers = 1; papers <= 4; papers++) {
            int[] all = new int[8 * papers];
            for (int i = 0; i < all.length; i++) {
                all[i] = one[i % 8];
            }
            DesertJars line = Desk.at("L4");
            due(papers + " like ones", joined(line, 0, papers, all), 8);
            due("empty then", line.count(6), 0);
        }
        due("20 bytes are enough for two of 5", joined(Desk.at("L5"), 0, 2, 0, 0, 0, 8, 1, 4, 2, 2, 3, 1, 0, 0, 0, 8, 1, 4, 2, 2, 3, 1), 16);
        due("what is behind does not matter", joined(x, 0, 1, 0, 0, 0, 4, 1, 2, 2, 1, 0, 0, 0, 99), 8);
        due("an unlike second one", joined(x, 0, 2, 0, 0, 0, 4, 1, 2, 2, 1, 0, 0, 0, 99, 0, 0, 0, 0), (103 + 2 + 1) / 1 + 1);
        due("L1", joined(Desk.at("L1"), 0, 4, 1, 1, 1, 1, 1, 1, 1, 1), 1);

        says(18, "-2 less the first WELL that is not right in the first PAPER that is not;");
        due("the second PAPER", joined(x, 0, 2, 0, 0, 0, 4, 1, 2, 2, 1, 0, 0, 0, 4, 1, 2, 2, 2), -5);
        due("the first of two", joined(x, 0, 2, 0, 0, 0, 4, 1, 2, 2, 2, 0, 0, 7, 4, 1, 2, 2, 1), -5);
        due("the first WELL", joined(x, 0, 2, 0, 0, 7, 4, 1, 3, 2, 2, 0, 0, 0, 4, 1, 2, 2, 1), -3);
        due("the fourth", joined(Desk.at("L3"), 1, 4, 1, 1, 0, 0, 1, 1, 1, 1, 0, 0, 1, 1, 1, 1, 0, 0, 1, 1, 1, 1, 0, 0, 2, 1), -4);
        due("WELL 0", joined(Desk.at("L3"), 1, 1, 0, 1, 0, 0, 1, 1), -2);
        due("empty then", x.count(6), 0);

        says(18, "-100: a WELL has no weight;");
        due("one", joined(x, 0, 1, 0, 0, 0, 4, 1, 2, 2, 0), -100);
        due("all", joined(x, 0, 1, 0, 0, 0, 0, 0, 0, 0, 0), -100);
        due("in both", joined(x, 0, 2, 0, 0, 0, 4, 1, 2, 2, 0, 0, 0, 0, 4, 1, 2, 2, 0), -100);
        due("in one of both alone", joined(x, 0, 2, 0, 0, 0, 4, 1, 2, 2, 0, 0, 0, 0, 4, 1, 2, 2, 1), (8 + 4 + 1) / 1 + 1);
        due("not right comes first", joined(x, 0, 2, 0, 0, 0, 4, 1, 2, 2, 0, 0, 0, 0, 4, 1, 3, 2, 0), -4);
        due("the WELL itself needs none", joined(x, 0, 1, 0, 0, 0, 4, 1, 2, 2, 1), 8);
        due("empty then", x.count(6), 0);

        says(18, "NONE: no such ones, it has not so many (the tape stays).");
        for (int w : NO_WELLS) {
            Sentences.refused("joined(" + w + ", 1)", y -> y.joined(w, 1));
        }
        for (int papers : new int[] {0, -1, 5, 2, 3, 4, LOW, HIGH, 1 << 30}) {
            Sentences.refused("joined(0, " + papers + ")", y -> y.joined(0, papers));
        }
        DesertJars five = Desk.at("L1");
        Desk.feed(five, new int[20]);
        due("five", five.joined(0, 5), NONE);
        due("the tape stays", five.count(6), 20);
        due("without WELLS", new DesertJars().joined(0, 1), NONE);
    }

    private static int product(String text) {
        return Desk.product(new DesertJars(), text);
    }

    private static void product() {
        says(19, "A PRODUCT by the first n bytes of the tape (1 to 60; empty then;");
        DesertJars x = new DesertJars();
        Desk.feed(x, Desk.bytes("K3,L3*L1"));
        due("5 bytes", x.product(5), 3);
        due("empty then", x.count(6), 0);
        Desk.feed(x, Desk.bytes("K3,L3*L1"));
        due("8 bytes", x.product(8), 3);
        Desk.feed(x, Desk.bytes("K3,L3*L1"));
        due("1 byte", x.product(1), -1001);
        due("bytes", SIXTY_BYTES.length(), 60);
        due("60 bytes", product(SIXTY_BYTES), 3);

        says(19, "FAULTS as of THE LAND; 1 where a , must stand or the end;");
        Object[] faults = {"L2", -1002, "L2*L1", -1005, "L2;L2", -1002, "L2;a-b,L2", -1002, "L2.L2", -1002, ",L2", -1000, "L2,", -1003, "L2,,L2", -1003,
            "L2,L2,L2", -1005, "L2,L2;a-b", -1005, "L2,L2)", -1005, "(L2,L2)", -1003, "L2,L2 ", -1005, "L2 ,L2", -1002, "L13,L2", -3001, "L2,L13",
            -3004, "L2,L123", -2006, "R2,L2", -3001, "L2,S1", -3004, "(((L1,L1", -5002, "L1,(((L1", -5005, "((L1)),((L1))", 0, "L4*L4,L2", -6003,
            "L2,L4*L4", -6006, "L2,x", -1003, "x,L2", -1000, "L,L2", -1001, "L2,L", -1004, "L2,L2*", -1006};
        for (int i = 0; i < faults.length; i += 2) {
            due("product " + faults[i], product((String) faults[i]), (Integer) faults[i + 1]);
        }
        Sentences.stays("a FAULT", y -> Desk.product(y, "L2,L13"), -3004, true);

        says(19, "6 also by the product of both, at the second one's first byte):");
        Object[] both = {"L4,L4", -6003, "L7,L2", -6003, "L2,L7", -6003, "L12,L2", -6004, "(L4),(L4)", -6005, "L2*L2,L2*L2", -6006, "L4,L4x", -6003,
            "L4,L4*", -1006, "L4,L4*x", -1006, "L4,L3", 1000000, "L4,(L4", -1006, "L12,L1", 1000000, "L5,L3", -6003};
        for (int i = 0; i < both.length; i += 2) {
            due("product " + both[i], product((String) both[i]), (Integer) both[i + 1]);
        }
    }

    private static void productsTold() {
        says(19, "by how much;");
        Object[] told = {"L1,L1", 0, "L2,L2", 0, "L2,L3", 0, "L3,L2", 0, "K3,L3", 3, "K3,K3", 0, "K6,L2", 0, "K12,L1", 0, "L1,L6", 0, "R5,L1", 0,
            "S4,L2", 0, "R4,L2", 0, "L4,L2", 0};
        for (int i = 0; i < told.length; i += 2) {
            due("product " + told[i], product((String) told[i]), (Integer) told[i + 1]);
        }

        says(19, "1000000 if one of the three NUMBERS is not told;");
        due("the first", product("L7,L1"), 1000000);
        due("the second", product("L1,L7"), 1000000);
        due("the product alone", product("L3,L3"), 1000000);
        due("the product alone, of 17 steps", product("R5,L2"), 1000000);
        due("the product alone, of 17 steps, too", product("K4,K3"), 1000000);
        due("the product of 16 steps is told", product("L4,L2"), 0);

        says(19, "NONE: no such n, it has not so many (the tape stays).");
        for (int n : new int[] {0, -1, 21, 61, LOW, HIGH}) {
            Sentences.refused("product(" + n + ")", y -> y.product(n));
        }
        DesertJars x = new DesertJars();
        due("61 bytes", Desk.product(x, SIXTY_BYTES + "x"), NONE);
        due("the tape stays", x.count(6), 80);
        due("not so many: none", new DesertJars().product(1), NONE);

        says(19, "THE LAND stays.");
        Sentences.stays("THE LAND stays", y -> Desk.product(y, "K3,L3"), 3, true);
        DesertJars star = Desk.at("S5");
        due("its NUMBERS, too", star.number(1, 100) == 6 && Desk.product(star, "K3,L3") == 3 && star.number(1, 100) == 6 && star.number(1, 2) == 3
            && star.landNumber(1) == 1 && star.number(2, 101) == 3 && star.fewest(100) == 2, true);
        due("without one there is none then", Desk.product(new DesertJars(), "L2,L2") == 0 && new DesertJars().count(1) == 0, true);
    }

    private static void robbers() {
        says(20, "ROBBERS for a WELL: 1 they can, 0 not;");
        due("there", Desk.at("L3", "a1").robbers(0), 1);
        due("NEXT", Desk.at("L3", "b2").robbers(0), 1);
        due("one NEXT", Desk.at("L3", "b1c11").robbers(0), 0);
        due("none", Desk.at("L3").robbers(0), 0);
        due("12 too far away", Desk.at("L3", "c12").robbers(0), 0);

        says(20, "-4: more than 8 WELLS, more than 12 JARS;");
        due("8 WELLS, 12 JARS", Desk.at("K8", "a12").robbers(1), 1);
        due("13 JARS", Desk.at("K8", "a13").robbers(1), -4);
        due("13 JARS there", Desk.at("L2", "a13").robbers(0), -4);
        due("9 WELLS", Desk.at("K9").robbers(0), -4);
        due("9 WELLS, one there", Desk.at("K9", "a1").robbers(0), -4);

        says(20, "NONE: no such WELL.");
        for (int w : NO_WELLS) {
            Sentences.refused("robbers(" + w + ")", y -> y.robbers(w));
        }
        due("9 of 9 WELLS", Desk.at("K9").robbers(9), NONE);
        due("without WELLS", new DesertJars().robbers(0), NONE);
    }

    private static void ledger() {
        says(21, "A LEDGER by the first n bytes of the tape (1 to 60; empty then), what 0 ways, 1 the least JARS, 2 the most (of 1, 2: no way: -2);");
        int[][] due = {{1, 2, 2}, {1, 2, 2}, {3, 0, 3}};
        for (int what = 0; what < 3; what++) {
            DesertJars x = Desk.at("L3", "a4b1");
            Desk.feed(x, Desk.bytes("a>b;?"));
            due("3 bytes, " + what, x.ledger(3, what), due[0][what]);
            due("empty then", x.count(6), 0);
            due("1 byte, " + what, Desk.ledger(x, "?", what), due[1][what]);
            due("5 bytes, " + what, Desk.ledger(x, "a>b;?", what), due[2][what]);
            due("no way, " + what, Desk.ledger(x, "b>a", what), what == 0 ? 0 : -2);
            due("nothing is changed", x.count(3), 5);
        }
        due("0 JARS at THE QUEEN's is no -2", Desk.ledger(Desk.at("L2", "a2"), "a>b", 1), 0);
        due("60 bytes", Desk.ledger(Desk.at("L2", "a2"), times("?", 30, ";") + "~", 1), -5006);

        says(21, "a FAULT;");
        // In the desert that is lived in, a is NEXT to c and d, not to b, and there is no g.
        Object[] faults = {"a>c~", -1003, times("a>d", 11, ";"), -4040, "?;?;?;?", -5006, "a>g", -7002, "a>b", -8002, "a>a", -8002};
        for (int i = 0; i < faults.length; i += 2) {
            String text = (String) faults[i];
            for (int what = 0; what < 3; what++) {
                int asked = what;
                Sentences.stays("ledger " + text, y -> Desk.ledger(y, text, asked), (Integer) faults[i + 1], true);
            }
        }
        Sentences.stays("all stays without a FAULT, too", y -> Desk.ledger(y, "?;?;?", 0) > 0 ? 1 : 0, 1, true);

        says(21, "NONE: no such ones, it has not so many (the tape stays).");
        for (int n : new int[] {0, -1, 21, 61, LOW, HIGH}) {
            Sentences.refused("ledger(" + n + ", 0)", y -> y.ledger(n, 0));
        }
        for (int what : new int[] {-1, 3, LOW, HIGH}) {
            Sentences.refused("ledger(3, " + what + ")", y -> y.ledger(3, what));
        }
        due("not so many: none", Desk.at("L2").ledger(1, 0), NONE);
    }

    private static void symmetries() {
        says(22, "SYMMETRIES, what 100 how many (no WELLS: 1), else WELLS on which WELL what can be laid (bits);");
        due("no WELLS", new DesertJars().symmetries(100), 1);
        due("one WELL", Desk.at("L1").symmetries(100), 1);
        due("on itself", Desk.at("L1").symmetries(0), 1);
        due("K12", Desk.at("K12").symmetries(100), 479001600);
        due("K12, l", Desk.at("K12").symmetries(11), 4095);
        due("L4, b", Desk.at("L4").symmetries(1), 0b0110);
        due("JARS, ROOM, THE QUEEN do not matter", Desk.at("L4", "a9").symmetries(100), 2);
        oneAfterTheOther("SYMMETRIES", (y, all) -> {
            all.append(y.symmetries(100)).append(':');
            for (int w = 0; w < y.count(1); w++) {
                all.append(y.symmetries(w)).append(' ');
            }
        });

        says(22, "NONE: no such ones.");
        for (int what : new int[] {6, 7, 12, 99, 101, -1, LOW, HIGH}) {
            Sentences.refused("symmetries(" + what + ")", y -> y.symmetries(what));
        }
        due("without WELLS", new DesertJars().symmetries(0), NONE);
        due("12 of 12", Desk.at("K12").symmetries(12), NONE);
    }

    private static void seedKeepUndo() {
        says(23, "THE SEED (0 to 65535; X, too): true;");
        for (int seed : new int[] {0, 1, 777, 65534, 65535}) {
            DesertJars x = Sentences.lived();
            due("seed(" + seed + ")", x.seed(seed), true);
            due("X, too", x.count(7), seed);
            DesertJars bare = new DesertJars();
            bare.seed(seed);
            bare.days(1);
            due("DRAWS go on from it", bare.count(7), Sentences.drawn(seed, 1));
        }

        says(23, "false: no such number.");
        for (int seed : new int[] {-1, 65536, 65537, LOW, HIGH}) {
            Sentences.refusedFalse("seed(" + seed + ")", y -> y.seed(seed));
        }

        says(24, "KEPT: THE DAY.");
        DesertJars x = new DesertJars();
        due("at first", x.keep(), 0);
        x.days(100);
        x.days(23);
        due("then", x.keep(), 123);
        due("THE DAY stays", x.count(0), 123);
        x.days(5);
        x.undo();
        due("back", x.count(0), 123);
        Sentences.stays("keep changes nothing else", PromiseSentences::livedAgain, 1, true);

        says(25, "UNDONE: true;");
        x = Desk.at("L2", "a4");
        x.keep();
        due("nothing between", x.undo(), true);
        due("once more", x.undo(), true);
        Desk.laying(x, "b9");
        due("JARS between", x.undo() && x.wellIs(0, 0) == 4 && x.wellIs(1, 0) == 0, true);

        says(25, "false: none was KEPT.");
        x = Desk.at("L2", "a4");
        x.queen(1);
        x.seed(9);
        x.days(2);
        String before = Sentences.seen(x);
        due("none was", x.undo(), false);
        due("none was yet", x.undo(), false);
        Sentences.dueText("nothing is changed", Sentences.seen(x), before);
        due("a new object", new DesertJars().undo(), false);
        x.keep();
        due("one was", x.undo(), true);
    }

    /** Goes back to what was KEPT, keeps it once more and lives again as before; THE DAY that was KEPT. */
    private static int livedAgain(DesertJars x) {
        x.undo();
        int day = x.keep();
        x.days(1);
        x.room(1, 11);
        x.queen(5);
        return day;
    }

    private static void check() {
        says(26, "CHECK by the first n bytes of the tape (0 to 12; empty then; beyond THE LAND's WELLS 255): NONE: right;");
        DesertJars x = Desk.at("L3", "a7c40");
        for (int n = 0; n <= 12; n++) {
            Desk.feed(x, 7, 0, 40, 255, 255, 255, 255, 255, 255, 255, 255, 255, 1, 2, 3);
            due("check(" + n + ")", x.check(n), NONE);
            due("empty then", x.count(6), 0);
        }
        due("none on it, none asked", x.check(0), NONE);
        DesertJars bare = new DesertJars();
        Desk.feed(bare, -1, -1, -1, -1, -1, -1, -1, -1, -1, -1, -1, -1);
        due("without WELLS", bare.check(12), NONE);

        says(26, "else the first that is not so;");
        for (int wrong = 0; wrong < 12; wrong++) {
            int[] bytes = {7, 0, 40, 255, 255, 255, 255, 255, 255, 255, 255, 255};
            for (int w = wrong; w < 12; w++) {
                bytes[w] ^= 1;
            }
            Desk.feed(x, bytes);
            due("wrong from " + wrong + " on", x.check(12), wrong);
            due("empty then", x.count(6), 0);
            Desk.feed(x, bytes);
            due("wrong behind those that are asked", x.check(wrong), NONE);
        }
        Desk.feed(x, 7, 0, 40, 0);
        due("0 beyond", x.check(4), 3);
        Desk.feed(x, 7, 255);
        due("255 within", x.check(2), 1);
        Sentences.stays("all stays", y -> {
            Desk.feed(y, 99);
            return y.check(1);
        }, 0, true);

        says(26, "-2: no such n, it has not so many (the tape stays).");
        for (int n : new int[] {-1, 13, 20, 21, LOW, HIGH}) {
            Sentences.stays("check(" + n + ")", y -> y.check(n), -2, false);
        }
        for (int n = 1; n <= 12; n++) {
            due("not so many: none", new DesertJars().check(n), -2);
        }
    }

    private static void count() {
        says(27, "0 THE DAY, 1 WELLS, 2 stages, 3 JARS of all, 4 THE QUEEN's WELL, 5 RULES, 6 bytes of the tape, 7 X, 8 the most steps between two"
            + " WELLS (-2: no way between some).");
        DesertJars x = Desk.at("S4;b-c", "a3b4");
        Desk.law(x, "e1(1=2);r1(1=2)");
        x.queen(2);
        x.days(4);
        Desk.feed(x, 1);
        int[] due = {4, 4, 4, 7, 2, 2, 20, Sentences.drawn(1, 12), 2};
        for (int what = 0; what < due.length; what++) {
            due("count " + what, x.count(what), due[what]);
        }
        Object[] lands = {"L1", 0, 0, "L12", 11, 11, "K12", 66, 1, "R12", 12, 6, "S12", 11, 2, "L3*L4", 17, 5, "L2;a/b", 0, -2, "K12;a/b", 65, 2,
            "L3;b/c", 1, -2};
        for (int i = 0; i < lands.length; i += 3) {
            due("stages of " + lands[i], Desk.at((String) lands[i]).count(2), (Integer) lands[i + 1]);
            due("most steps in " + lands[i], Desk.at((String) lands[i]).count(8), (Integer) lands[i + 2]);
        }
        due("480 JARS", Desk.at("K12", "a40b40c40d40e40f40g40h40i40j40k40l40").count(3), 480);

        says(27, "NONE for others.");
        for (int what : new int[] {-1, 9, 10, 100, LOW, HIGH}) {
            Sentences.refused("count(" + what + ")", y -> y.count(what));
            due("of a new object", new DesertJars().count(what), NONE);
        }
    }

    static void all() {
        newObject();
        roomAndQueen();
        feed();
        law();
        land();
        laying();
        daysAndTried();
        wells();
        reach();
        number();
        landNumber();
        fewest();
        atOnce();
        papers();
        joinedPapers();
        product();
        productsTold();
        robbers();
        ledger();
        symmetries();
        seedKeepUndo();
        check();
        count();
    }
}
