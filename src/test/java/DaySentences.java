/** "Terms" about A DAY and the DRAWS, and of what is TRIED. */
final class DaySentences {
    private DaySentences() {
    }

    private static void says(int promise, String words) {
        Sentences.saysOf(promise, words);
    }

    private static void due(String call, long got, long want) {
        Sentences.due(call, got, want);
    }

    /** JARS after so many DAYS. */
    private static void after(int days, String land, String laying, String law, String jars) {
        DesertJars x = Desk.at(land, laying);
        due("law " + law, Desk.law(x, law) > 0 ? 1 : 0, 1);
        x.days(days);
        Sentences.dueText(laying + " in " + land + " by " + law, Sentences.jars(x), jars);
    }

    private static void draws(DesertJars x, int days, int draws) {
        x.days(days);
        due("X after " + draws + " DRAWS", x.count(7), Sentences.drawn(1, draws));
    }

    private static void stages() {
        says(8, "A DAY, with a DRAW: if x does not hold,");
        draws(new DesertJars(), 1, 1);
        draws(new DesertJars(), 100, 100);
        draws(Desk.at("L3"), 1, 1);
        DesertJars x = Desk.at("L3", "a4");
        Desk.law(x, "x(1=1);e1(1=1)");
        due("none goes", x.tried(1, 0), 0);
        draws(x, 1, 2);
        due("THE DAY goes by", x.count(0), 1);
        Desk.law(x, "x(1=2);e1(1=1)");
        due("one goes", x.tried(1, 0), 1);

        says(8, "of all stages (both ways) from a WELL with c JARS at least");
        after(1, "L2", "a2", "e1(1=1)", "0 1");
        after(1, "L2", "b2", "e1(1=1)", "1 0");
        after(1, "L2", "a1b1", "e1(1=1)", "1 1");
        after(1, "L3", "a2", "e1(g=2)", "2 0 0");
        after(1, "L3", "b3", "e9(g=0);e1(1=1);c4(g=0);c3(1=1)", "0 0 1");
        after(1, "L3", "b4", "e9(g=0);e1(1=1);c4(g=0);c3(1=1)", "1 0 0");
        after(1, "L3", "b2", "e9(g=0);e1(1=1);c4(g=0);c3(1=1)", "0 2 0");
        after(1, "L3", "a8c9", "e9(f=0);e1(1=1);c9(1=1)", "8 1 0");

        says(8, "to one with fewer JARS than ROOM");
        for (int room = 0; room <= 40; room++) {
            for (int lying = Math.max(0, room - 1); lying <= Math.min(40, room + 1); lying++) {
                x = Desk.at("L2", "a2b" + lying);
                x.room(1, room);
                Desk.law(x, "e1(g=1)");
                due(lying + " where there is ROOM for " + room, x.tried(1, 0), lying < room ? 1 : 0);
            }
        }
        x = Desk.at("L3", "b4");
        x.room(0, 0);
        Desk.law(x, "e9(g=0);e1(1=1)");
        x.days(1);
        Sentences.dueText("another one is gone", Sentences.jars(x), "0 2 1");
        x.room(1, 0);
        due("ROOM where it starts does not matter", x.tried(1, 0), 1);
    }

    private static void liking() {
        says(8, "the one they like most is gone (e above 0; of like ones the lowest from, then the lowest to):");
        after(1, "K4", "a2b2c2d2", "e1(1=1)", "0 3 2 2");
        after(1, "K4", "b2c2", "e1(1=1)", "1 0 2 0");
        after(1, "K4", "d2", "e1(g>0)", "0 1 0 0");
        after(1, "K4", "a2b2c2d2", "e1+f(1=1)", "3 2 2 0");
        after(1, "K4", "a2b2c2d2", "e1+g(1=1)", "0 2 2 3");
        after(1, "K4", "a2b2c2d2", "e5-f(g<3);e7(1=1)", "0 2 2 3");
        after(1, "K4", "a2b2c2d2", "e0(1=1)", "2 2 2 2");
        after(1, "K4", "a2b2c2d2", "e0-f(1=1)", "2 2 2 2");
        after(1, "K4", "a2b2c2d2", "e1(f=3&g=2)", "2 2 3 0");
        after(1, "K12", "k2l2", "e9999(1=1)", "1 0 0 0 0 0 0 0 0 0 0 2");

        says(8, "c JARS less there, one more here.");
        after(1, "L2", "a40", "e1(1=1)", "38 1");
        after(1, "L2", "a40b39", "e1(1=1);c9(1=1)", "31 40");
        after(1, "L2", "a9b9", "e1(1=1);c3+6*g(1=1)", "0 10");
        after(1, "L2", "a9b9", "e1(1=1);c3+6*f(1=1)", "6 10");
        after(1, "L2", "a9b9", "e1(1=1);c3+f(1=1)", "6 10");
        after(2, "L2", "a9", "e1(g=1);c3(1=1)", "3 2");
    }

    private static void robbers() {
        says(8, "Then at each WELL with JARS, by numbers, as it is then:");
        DesertJars x = Desk.at("L4", "a4c1");
        draws(x, 1, 3);
        x = Desk.at("L2", "a2");
        Desk.law(x, "e1(1=1);r10(1=1)");
        due("what was brought is robbed", x.tried(1, 1), 1);
        due("at b", x.tried(1, 2), 0);
        draws(x, 1, 2);
        draws(Desk.at("K12", "a1b1c1d1e1f1g1h1i1j1k1l1"), 1, 13);
        after(1, "L3", "a4b1c2", "r10(j=7|j=6)", "3 0 2");
        after(1, "L3", "a4b1c2", "r10(j=6)", "4 1 2");
        after(1, "L3", "a4b1c2", "r10(f=0|f=1&j=6|f=2&j=5)", "3 0 1");
        after(1, "L3", "a4b1c2", "e1(f=0&g=1);r10(f=1&n=2)", "2 1 2");
        after(1, "L3", "a4b1c2", "e1(f=0&g=1);r10(f=0&n=2)", "1 2 2");
        for (int seed = 0; seed < 65536; seed += 1999) {
            x = Desk.at("L3", "a1c1");
            x.seed(seed);
            Desk.law(x, "r5(1=1)");
            due("a's DRAW, seed " + seed, x.tried(1, 10), Sentences.drawn(seed, 2) % 10 < 5 ? 0 : 1);
            due("c's DRAW, seed " + seed, x.tried(1, 12), Sentences.drawn(seed, 3) % 10 < 5 ? 0 : 1);
        }

        says(8, "with another DRAW below r (asked ahead) one JAR is taken.");
        draws(Desk.at("L2", "a1b1"), 4, 12);
        x = Desk.at("L2", "a1b1");
        Desk.law(x, "r0(1=1)");
        draws(x, 4, 12);
        x = Desk.at("L2", "a1b1");
        Desk.law(x, "r10(1=1)");
        draws(x, 4, 6);
        due("one each", x.count(3), 0);
        after(1, "L2", "a40b2", "r10(n=40)", "39 2");
        after(1, "L2", "a40b2", "r10(n=39)", "40 2");
        after(1, "L2", "a40b2", "r10(1=1)", "39 1");
        after(3, "L2", "a40b2", "r10(1=1)", "37 0");
    }

    private static void lastDay() {
        says(8, "THE DAY is one more (9999 at most: then none goes by).");
        DesertJars x = Desk.at("L2", "a40");
        for (int i = 1; i <= 99; i++) {
            x.days(100);
            due("THE DAY", x.count(0), 100 * i);
        }
        Desk.law(x, "e1(g=1)");
        due("99 more", x.tried(99, 0), 20);
        x.days(98);
        due("THE DAY", x.count(0), 9998);
        Desk.laying(x, "a9");
        due("one DAY more can go by", x.tried(100, 0), 1);
        due("goes by", x.days(100), 1);
        due("9999", x.count(0), 9999);
        int draw = x.count(7);
        due("none goes by", x.days(1), 0);
        due("nor 100", x.days(100), 0);
        due("none is tried", x.tried(100, 0) + x.tried(100, 1), 0);
        due("JARS as they were", x.tried(100, 2), 8);
        due("9999 at most", x.count(0), 9999);
        due("no DRAW", x.count(7), draw);
        due("JARS stay", x.count(3), 8);
        due("it is kept", x.keep(), 9999);
        due("no such n even then", x.days(0), -1);

        says(8, "DRAWS: X = (25173 X + 13849) modulo 65536 (X is THE SEED at first, 1): X modulo 10.");
        due("X at first", new DesertJars().count(7), 1);
        x = new DesertJars();
        x.days(1);
        due("25173 + 13849", x.count(7), 39022);
        x.days(1);
        // 39022 * 25173 + 13849 = 982314655, less 14988 times 65536.
        due("the next", x.count(7), 982314655 % 65536);
        for (int seed : new int[] {0, 1, 2, 9, 10, 32767, 32768, 39022, 65534, 65535}) {
            x = Desk.at("L2", "a2");
            x.seed(seed);
            int draw1 = (int) ((25173L * seed + 13849) % 65536);
            Desk.law(x, "e1(w=" + draw1 % 10 + ")");
            due("X modulo 10 of " + draw1, x.tried(1, 0), 1);
            Desk.law(x, "e1(w<0|w>9)");
            due("0 to 9", x.tried(100, 0), 0);
            Desk.laying(x, "a0");
            x.days(1);
            due("X behind " + seed, x.count(7), draw1);
        }
    }

    private static void tried() {
        says(9, "TRIED are n DAYS by the DRAWS that will come (nothing is changed).");
        for (int n = 1; n <= 100; n += n < 8 ? 1 : 23) {
            DesertJars x = Sentences.lived();
            String before = Sentences.seen(x);
            int gone = x.tried(n, 0);
            int robbed = x.tried(n, 1);
            int left = x.tried(n, 2);
            StringBuilder jars = new StringBuilder();
            for (int w = 0; w < x.count(1); w++) {
                jars.append(w > 0 ? " " : "").append(x.tried(n, 10 + w));
            }
            Sentences.dueText("nothing is changed", Sentences.seen(x), before);
            int all = x.count(3);
            due("stages gone in " + n, x.days(n), gone);
            due("JARS left after " + n, x.count(3), left);
            Sentences.dueText("JARS after " + n, Sentences.jars(x), jars.toString());
            // A stage costs 2 from a WELL of an even number and 3 from an odd one.
            due("robbed in " + n + " at most", robbed <= all - left - gone && robbed >= all - left - 2 * gone ? 1 : 0, 1);
        }
        DesertJars x = Sentences.lived();
        x.undo();
        String kept = Sentences.seen(x);
        x = Sentences.lived();
        x.tried(9, 0);
        x.undo();
        Sentences.dueText("what was KEPT stays", Sentences.seen(x), kept);
    }

    static void all() {
        stages();
        liking();
        robbers();
        lastDay();
        tried();
    }
}
