/** "Terms" about WELLS, THE LAND and A LAYING. */
final class LandSentences {
    private static final int NONE = Sentences.NONE;

    private LandSentences() {
    }

    private static void says(int promise, String words) {
        Sentences.saysOf(promise, words);
    }

    private static void due(String call, long got, long want) {
        Sentences.due(call, got, want);
    }

    private static void due(String call, boolean got, boolean want) {
        Sentences.due(call, got, want);
    }

    private static String times(String text, int n, String between) {
        return Sentences.times(text, n, between);
    }

    private static int land(String text) {
        return Desk.land(new DesertJars(), text);
    }

    private static void lands(Object... textsAndAnswers) {
        for (int i = 0; i < textsAndAnswers.length; i += 2) {
            due("land " + textsAndAnswers[i], land((String) textsAndAnswers[i]), (Integer) textsAndAnswers[i + 1]);
        }
    }

    /** WELLS NEXT to each WELL of a land, as bits. */
    private static void next(String text, int... bits) {
        DesertJars x = Desk.at(text);
        due("WELLS of " + text, x.count(1), bits.length);
        for (int w = 0; w < bits.length; w++) {
            due("NEXT to " + w + " in " + text, x.wellIs(w, 2), bits[w]);
        }
    }

    private static void layings(String land, Object... textsAndAnswers) {
        for (int i = 0; i < textsAndAnswers.length; i += 2) {
            due("laying " + textsAndAnswers[i] + " in " + land, Desk.laying(Desk.at(land), (String) textsAndAnswers[i]),
                (Integer) textsAndAnswers[i + 1]);
        }
    }

    private static void wells() {
        says(6, "WELLS a to l (0 to 11), as many as THE LAND has (none at first)");
        due("none at first", new DesertJars().count(1), 0);
        due("no WELL 0 at first", new DesertJars().wellIs(0, 0), NONE);
        for (int n = 1; n <= 12; n++) {
            DesertJars x = Desk.at("L" + n);
            due("WELLS of L" + n, x.count(1), n);
            due("the last of L" + n, x.wellIs(n - 1, 0), 0);
            due("none behind it", x.wellIs(n, 0), NONE);
            due("none ahead of a", x.wellIs(-1, 0), NONE);
            due("letter " + n, Desk.laying(x, Sentences.letter(n - 1) + "7"), 7);
            due("lays there", x.wellIs(n - 1, 0), 7);
        }
        layings("K12", "l1", 1, "m1", -1000, "`1", -1000);

        says(6, "two unlike ones are NEXT to each other (a stage) or not.");
        for (String text : new String[] {"L12", "R7", "S9", "K6", "L3*R4", "K2*S3*L2", "R5;a-c;b/a", "L2;a/b"}) {
            DesertJars x = Desk.at(text);
            int both = 0;
            for (int p = 0; p < x.count(1); p++) {
                due(text + ": not NEXT to itself", x.wellIs(p, 2) >> p & 1, 0);
                due(text + ": no WELLS beyond", x.wellIs(p, 2) >> x.count(1), 0);
                both += Integer.bitCount(x.wellIs(p, 2));
                for (int q = 0; q < p; q++) {
                    due(text + ": both ways", x.wellIs(p, 2) >> q & 1, x.wellIs(q, 2) >> p & 1);
                }
            }
            due(text + ": stages", x.count(2), both / 2);
        }

        says(2, "JARS at each (0 to 40), ROOM for so many (0 to 40; 40 at first).");
        layings("L2", "a0", 0, "a40", 40, "a40b40", 80, "a41", -3001);
        DesertJars x = Desk.at("L2", "a4b39");
        due("ROOM at first", x.wellIs(0, 1) == 40 && x.wellIs(1, 1) == 40, true);
        Desk.law(x, "e1(g=1)");
        due("up to 40", x.days(9), 1);
        Sentences.dueText("no more than 40", Sentences.jars(x), "2 40");
        due("ROOM 0", x.room(0, 0) && x.wellIs(0, 1) == 0, true);
        due("ROOM 40", x.room(0, 40) && x.wellIs(0, 1) == 40, true);
        due("ROOM 41", x.room(0, 41), false);
        due("ROOM -1", x.room(0, -1), false);

        says(3, "THE QUEEN is at a WELL (0 at first).");
        due("at first", new DesertJars().count(4), 0);
        due("in a land", Desk.at("L3").count(4), 0);
        due("no steps to her", Desk.at("L3").wellIs(0, 3), 0);

        says(8, "THE DAY (0 at first).");
        due("at first", new DesertJars().count(0), 0);
        due("in a land", Desk.at("L3").count(0), 0);
    }

    private static void texts() {
        says(6, "THE LAND: a TEXT of at most 60 bytes, no blanks: a WHOLE, then perhaps up to 10 LINES, a ; (59) ahead of each.");
        String sixty = times("L1", 19, "*") + "*L12";
        due("bytes", sixty.length(), 60);
        due("60 bytes", land(sixty), 12);
        DesertJars x = new DesertJars();
        due("61 bytes", Desk.land(x, sixty + "*"), NONE);
        due("61 bytes stay", x.count(6), 80);
        String text = "(L2*R3)*K2;a-l;b/c";
        due("no blanks", land(text), 12);
        for (int i = 0; i <= text.length(); i++) {
            due("a blank at " + i, land(text.substring(0, i) + " " + text.substring(i)), -1000 - i);
        }
        lands("L3", 3, "L3;a-c", 3, "L3" + times(";a-c", 10, ""), 3, "L3" + times(";a-c", 11, ""), -4043);
        lands("L3:a-c", -1002, "L3<a-c", -1002, "L3,a-c", -1002, "L3a-c", -1002, ";a-b", -1000, "L3;;a-c", -1003);

        says(6, "A WHOLE: PARTS with a * between two;");
        lands("L2", 2, "L2*L3", 6, "L2*K2*L3", 12, "L1*L1*L1*L1", 1, "*L2", -1000, "L2*", -1003, "L2**L2", -1003, "L2L2", -1002, "L2+L2",
            -1002, "L2*;a-b", -1003);
    }

    private static void parts() {
        says(6, "a PART: L (a line), R (a ring), S (a star: its first WELL is in the middle), K (all are NEXT to each other)");
        for (int n = 1; n <= 12; n++) {
            int[] line = new int[n];
            int[] all = new int[n];
            int[] star = new int[n];
            int[] ring = new int[n];
            for (int w = 0; w < n; w++) {
                line[w] = (w > 0 ? 1 << w - 1 : 0) | (w + 1 < n ? 1 << w + 1 : 0);
                all[w] = (1 << n) - 1 & ~(1 << w);
                star[w] = w == 0 ? (1 << n) - 2 : 1;
                ring[w] = 1 << (w + 1) % n | 1 << (w + n - 1) % n;
            }
            next("L" + n, line);
            next("K" + n, all);
            if (n >= 2) {
                next("S" + n, star);
            }
            if (n >= 3) {
                next("R" + n, ring);
            }
        }
        lands("l3", -1000, "r3", -1000, "s3", -1000, "k3", -1000, "M3", -1000, "3", -1000);

        says(6, "and a number of WELLS of one or two digits (1 to 12; of R 3, of S 2 at least), or (WHOLE).");
        for (String kind : new String[] {"L", "K", "R", "S"}) {
            int least = kind.equals("R") ? 3 : kind.equals("S") ? 2 : 1;
            for (int n = 0; n <= 99; n++) {
                int due = n >= least && n <= 12 ? n : -3001;
                due("land " + kind + n, land(kind + n), due);
                if (n < 10) {
                    due("land " + kind + "0" + n, land(kind + "0" + n), due);
                }
            }
            lands(kind, -1001, kind + "a", -1001, kind + "(3)", -1001, kind + "-1", -1001);
        }
        lands("(L3)", 3, "((L3))", 3, "(L2*L3)", 6, "((L2)*(L3))", 6, "()", -1001, "(3)", -1001, "(L3;a-c)", -1003);
        next("(S3)", 0b110, 0b001, 0b001);

        says(6, "The product of two: a WELL for each two of a WELL of the first and one of the second (of those of the first one by one, of"
            + " each those of the second);");
        next("L2*L3", 0b001010, 0b010101, 0b100010, 0b010001, 0b101010, 0b010100);
        next("L3*L2", 0b000110, 0b001001, 0b011001, 0b100110, 0b100100, 0b011000);
        next("S3*L2", 0b010110, 0b101001, 0b001001, 0b000110, 0b100001, 0b010010);
        next("L1*R3", 0b110, 0b101, 0b011);
        next("R3*L1", 0b110, 0b101, 0b011);
        lands("L3*L4", 12, "L4*L3", 12, "L1*L12", 12, "L12*L1", 12, "L6*L2", 12);

        says(6, "two are NEXT if in one of both lands theirs are alike, in the other one NEXT; from the left on.");
        next("L2*L2", 0b0110, 0b1001, 0b1001, 0b0110);
        next("K2*K2", 0b0110, 0b1001, 0b1001, 0b0110);
        due("stages of K3*K3", Desk.at("K3*K3").count(2), 18);
        due("stages of K3*K4", Desk.at("K3*K4").count(2), 3 * 6 + 4 * 3);
        next("L2*L2*L2", 0b00010110, 0b00101001, 0b01001001, 0b10000110, 0b01100001, 0b10010010, 0b10010100, 0b01101000);
        lands("L2*L3*L3", -6006, "L3*L3*L2", -6006, "L2*(L3*L3)", -6003, "L2*L7*L1", -6003, "L2*L2*L3*L1", 12);
    }

    private static void lines() {
        says(6, "A LINE: a letter, - (45, they are NEXT) or / (47, they are not), a letter.");
        next("L3;a-c", 0b110, 0b101, 0b011);
        next("L3;c-a", 0b110, 0b101, 0b011);
        next("K3;a/b", 0b100, 0b100, 0b011);
        next("K3;b/a", 0b100, 0b100, 0b011);
        next("L3;a-b", 0b010, 0b101, 0b010);
        next("L3;a/c", 0b010, 0b101, 0b010);
        next("L2;a/b;a-b", 0b10, 0b01);
        next("L2;a-b;a/b", 0b00, 0b00);
        next("L12;a-l;a/b", 1 << 11, 0b100, 0b1010, 0b10100, 0b101000, 0b1010000, 0b10100000, 0b101000000, 0b1010000000,
            0b10100000000, 0b101000000000, 0b010000000001);
        lands("L3;a,b", -1004, "L3;a.b", -1004, "L3;a0b", -1004, "L3;ab", -1004, "L3;A-b", -1003, "L3;a-B", -1005, "L3;1-2", -1003,
            "L3;a-b-c", -1006, "L3;a-bc", -1006);
    }

    private static void faults() {
        says(6, "FAULTS, the first from the left: 1 what can't stand there (the end, too);");
        lands("L0;a-a", -3001, "L13*(((", -3001, "(((L0", -5002, "L3;a-a;x", -8005, "L3;x;a-a", -1003, "L3;d-d;a-a", -7003, "L4*L4;z",
            -6003, "L123*L0", -2003, "L0*L123", -3001, "L3;a-d;a-a", -7005, "x(((", -1000);
        String text = "(L2*R3)*S02;a-l;b/c";
        for (int i = 1; i <= text.length(); i++) {
            boolean whole = i == 7 || i == 11 || i == 15 || i == 19;
            int answer = land(text.substring(0, i));
            // S0 ends at the 0, which is a number then, and too low.
            due("the end behind " + text.substring(0, i), answer, i == 10 ? -3009 : whole ? i == 7 ? 6 : 12 : -1000 - i);
        }
        for (int sign : new int[] {0, ' ', '~', 'z', 'Z', 127, 128, 200, 255}) {
            for (int i = 0; i < text.length(); i++) {
                String wrong = text.substring(0, i) + (char) sign + text.substring(i + 1);
                due("byte " + sign + " at " + i, land(wrong), i == 10 ? -3009 : -1000 - i);
            }
        }

        says(6, "2 a third digit, at it;");
        lands("L123", -2003, "L012", -2003, "L001", -2003, "L1000", -2003, "L991", -2003, "L000", -2003, "(K121)", -2004, "L2*L003",
            -2006, "R003", -2003, "S002", -2003, "L12", 12, "L01", 1);

        says(6, "3 a number too low or high, at its first digit (asked when it ends);");
        lands("L0", -3001, "L00", -3001, "L13", -3001, "L99", -3001, "L13x", -3001, "L0x", -3001, "L13*", -3001, "L13;", -3001, "(L13", -3002,
            "L2*L0", -3004, "R2", -3001, "R02", -3001, "S1", -3001, "S01", -3001, "K0", -3001, "K13", -3001, "R13", -3001, "S13", -3001,
            "((K0", -3003, "L130", -2003, "L7*L13", -3004);

        says(6, "4 an 11th LINE, at its letter (if that can stand there);");
        String ten = "K12" + times(";a/b", 10, "");
        due("bytes of ten LINES", ten.length(), 43);
        lands(ten, 12, ten + ";a-b", -4044, ten + ";l/a", -4044, ten + ";a-a", -4044, ten + ";a", -4044, ten + ";a~", -4044, ten + ";",
            -1044, ten + ";m-a", -1044, ten + ";;", -1044, ten + ";A", -1044, ten + "a", -1043);

        says(6, "5 a third ( that is open in another one, at it;");
        lands("(((L2)))", -5002, "(((", -5002, "((L2))", 2, "((L2)*(L2))", 4, "(L2)*(L2)*(L2)", 8, "((L2)*((L2)))", -5007, "L1*(((", -5005,
            "((L1)*(L1))*((L2)*(L2))", 4, "(L2*(L2*(L2)))", -5008, "((L1*(L2", -5005, "((L1)*(L1)*(", -1012, "((L1(", -1004, "((L(", -1003,
            "((L1)(", -1005);

        says(6, "6 more than 12 WELLS by a product, at the first byte of the PART by which they are (asked when it ends);");
        lands("L3*L4", 12, "L7*L2", -6003, "L2*L7", -6003, "L12*L2", -6004, "L12*L12", -6004, "L3*L5", -6003, "L4*L4x", -6003, "L4*L4*",
            -6003, "L4*L4;", -6003, "L7*(L2)", -6003, "L7*(L2", -1006, "L7*(L2x", -1006, "L7*(x", -1004, "L7*(L2)x", -6003, "(L4*L4", -6004,
            "(L4*L4)", -6004, "L2*(L4*L4)", -6007, "L2*(L2*L2)*L2", -6011, "L7*L13", -3004, "L7*L123", -2006, "L7*x", -1003, "L7*L", -1004,
            "L1*L12*L2", -6007, "(L7)*(L2)", -6005, "K4*S4", -6003);

        says(6, "7 no such WELL, at its letter (behind 4);");
        lands("L3;d-a", -7003, "L3;a-d", -7005, "L3;a/l", -7005, "L3;c-a", 3, "L11;l-a", -7004, "L12;l-a", 12, "L1;b", -7003, "L3;d", -7003,
            "L3;d~", -7003, "L3;d-d", -7003, "L3;m-a", -1003, "L3;a-m", -1005, "L3" + times(";a-b", 10, "") + ";d-a", -4043,
            "L3" + times(";a-b", 10, "") + ";d", -4043, "L3" + times(";a-b", 9, "") + ";d-a", -7039, "L2*L2;e-a", -7006);

        says(6, "8 a WELL and itself, at the second letter.");
        lands("L3;a-a", -8005, "L3;b/b", -8005, "L12;l-l", -8006, "L3;a-b;c/c", -8009, "L3;a-ax", -8005, "L1;a-a", -8005, "L3;d-d", -7003);
    }

    private static void landThen() {
        says(6, "All JARS are 0, ROOM 40, THE QUEEN at 0 then.");
        for (String text : new String[] {"L2*R3;a/b", "K12", "L1"}) {
            DesertJars x = Sentences.lived();
            DesertJars before = Sentences.lived();
            Desk.land(x, text);
            due("JARS in " + text, x.count(3), 0);
            due("THE QUEEN in " + text, x.count(4), 0);
            for (int w = 0; w < x.count(1); w++) {
                due("JARS, ROOM at " + w + " in " + text, 100 * x.wellIs(w, 0) + x.wellIs(w, 1), 40);
            }
            due("THE DAY stays", x.count(0), before.count(0));
            due("THE LAW stays", x.count(5), before.count(5));
            due("X stays", x.count(7), before.count(7));
        }
        DesertJars x = Sentences.lived();
        Desk.land(x, "L1");
        Desk.land(x, "K12");
        due("none is hidden beyond a smaller land", x.count(3), 0);
        due("nor ROOM", x.wellIs(1, 1) == 40 && x.wellIs(2, 1) == 40, true);
    }

    private static void layingTexts() {
        says(7, "A LAYING: a TEXT of at most 60 bytes:");
        StringBuilder all = new StringBuilder();
        for (int w = 0; w < 12; w++) {
            all.append(Sentences.letter(w)).append("40");
        }
        layings("K12", all.toString(), 480, all + all.substring(0, 24), -6036);
        DesertJars x = Desk.at("K12");
        due("61 bytes", Desk.laying(x, all + all.substring(0, 25)), NONE);
        due("61 bytes stay", x.count(6), 80);

        says(7, "a letter and a number of one or two digits (0 to 40), one behind the other, each WELL once at most: JARS there; others have"
            + " none then.");
        for (int n = 0; n <= 99; n++) {
            due("laying b" + n, Desk.laying(Desk.at("L3"), "b" + n), n <= 40 ? n : -3001);
        }
        x = Desk.at("L4");
        Object[] texts = {"a1", "1 0 0 0", "d40", "0 0 0 40", "c3a1", "1 0 3 0", "d4c3b2a1", "1 2 3 4", "b00", "0 0 0 0", "a09d01", "9 0 0 1",
            "a0b0c0d0", "0 0 0 0"};
        for (int i = 0; i < texts.length; i += 2) {
            due("laying " + texts[i], Desk.laying(x, (String) texts[i]) >= 0, true);
            Sentences.dueText("JARS by " + texts[i], Sentences.jars(x), (String) texts[i + 1]);
        }
    }

    private static void layingFaults() {
        says(7, "FAULTS: 1; 2; 3 above 40, at the number's first digit;");
        String text = "a40c5b12";
        for (int i = 1; i <= text.length(); i++) {
            int due = i == 1 || i == 4 || i == 6 ? -1000 - i : i < 3 ? 4 : i < 5 ? 40 : i < 7 ? 45 : i < 8 ? 46 : 57;
            due("the end behind " + text.substring(0, i), Desk.laying(Desk.at("L3"), text.substring(0, i)), due);
        }
        for (int i = 0; i < text.length(); i++) {
            due("a ; at " + i, Desk.laying(Desk.at("L3"), text.substring(0, i) + ";" + text.substring(i + 1)), -1000 - i);
            due("a blank at " + i, Desk.laying(Desk.at("L3"), text.substring(0, i) + " " + text.substring(i)), -1000 - i);
        }
        layings("L3", "a400", -2003, "a000", -2003, "a411", -2003, "a999", -2003, "b1a123", -2005, "a40", 40, "a41", -3001, "a99", -3001,
            "a41x", -3001, "a41a41", -3001, "b7a41", -3003, "b12c50", -3004, "m41", -1000, "1", -1000, "aa", -1001, "a-1", -1001);

        says(7, "6 a WELL twice, at its letter (behind 7);");
        layings("L3", "a1a1", -6002, "a0a0", -6002, "a1b2a", -6004, "a1b2a99", -6004, "a10b2a123", -6005, "a1a~", -6002, "c1b2c1", -6004,
            "d1d1", -7000, "a1d1a1", -7002);

        says(7, "7 no such WELL, at its letter.");
        layings("L3", "d1", -7000, "l1", -7000, "m1", -1000, "a1d1", -7002, "d", -7000, "d~", -7000, "d99", -7000, "c1", 1);
        layings("K12", "l1", 1);
        due("without WELLS", Desk.laying(new DesertJars(), "a1"), -7000);
    }

    static void all() {
        wells();
        texts();
        parts();
        lines();
        faults();
        landThen();
        layingTexts();
        layingFaults();
    }
}
