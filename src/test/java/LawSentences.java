/** "Terms" about THE LAW: how it is written, and what it says. */
final class LawSentences {
    private static final int NONE = Sentences.NONE;
    private static final String HOLDS = "1=1";
    private static final String FAILS = "1=2";

    private LawSentences() {
    }

    private static void says(int promise, String words) {
        Sentences.saysOf(promise, words);
    }

    private static void due(String call, long got, long want) {
        Sentences.due(call, got, want);
    }

    private static void due(String call, boolean got, boolean want) {
        Sentences.due(call, got, want);
    }

    private static String times(String text, int n, String between) {
        return Sentences.times(text, n, between);
    }

    private static void laws(Object... textsAndAnswers) {
        for (int i = 0; i < textsAndAnswers.length; i += 2) {
            due("law " + textsAndAnswers[i], Desk.law(new DesertJars(), (String) textsAndAnswers[i]), (Integer) textsAndAnswers[i + 1]);
        }
    }

    /** JARS in L3 (or another land) after one DAY. */
    private static void after(String land, String laying, String law, String jars) {
        DesertJars x = Desk.at(land, laying);
        due("law " + law, Desk.law(x, law) > 0, true);
        x.days(1);
        Sentences.dueText(laying + " in " + land + " by " + law, Sentences.jars(x), jars);
    }

    /** Whether a C holds of the stage from a to b in L2, with 4 and 1 JARS, THE QUEEN at b, on THE DAY 0. */
    private static boolean holds(String condition) {
        DesertJars x = Desk.at("L2", "a4b1");
        x.queen(1);
        due("law e1(" + condition + ")", Desk.law(x, "e1(" + condition + ")"), 1);
        return x.tried(1, 0) == 1;
    }

    private static void hold(Object... conditionsAndAnswers) {
        for (int i = 0; i < conditionsAndAnswers.length; i += 2) {
            due((String) conditionsAndAnswers[i], holds((String) conditionsAndAnswers[i]), (Boolean) conditionsAndAnswers[i + 1]);
        }
    }

    private static void texts() {
        says(5, "THE LAW: a TEXT of at most 240 bytes, no blanks (none at first):");
        DesertJars x = Desk.at("L2", "a9");
        due("no RULES at first", x.count(5), 0);
        due("none goes, none is robbed at first", x.tried(50, 0) + x.tried(50, 1), 0);
        String most = "e1(1" + times("+0", 115, "") + "+1=2)";
        due("bytes", most.length(), 239);
        due("239 bytes", Desk.law(x, most), 1);
        due("239 bytes hold", x.tried(1, 0), 1);
        String longest = most.replace("e1", "e01");
        due("240 bytes", Desk.law(x, longest), 1);
        due("240 bytes hold", x.tried(1, 0), 1);
        due("241 bytes", Desk.law(x, longest.replace("=2", "=02")), NONE);
        due("241 bytes stay", x.count(6), 260);
        String text = "e12+n*[2](f<g&!(1=1)|d=3);x(w>4);c3(1=1)";
        laws(text, 3);
        for (int i = 0; i <= text.length(); i++) {
            laws(text.substring(0, i) + " " + text.substring(i), -1000 - i);
        }

        says(5, "RULES (16 at most) with a ; (59) between two:");
        for (int n = 1; n <= 16; n++) {
            laws(times("x(1=1)", n, ";"), n);
        }
        String sixteen = times("e1(1=2)", 15, ";") + ";e1(1=1)";
        x = Desk.at("L2", "a2");
        due("sixteen", Desk.law(x, sixteen), 16);
        due("the 16th holds", x.tried(1, 0), 1);
        laws(times("x(1=1)", 17, ";"), -4112, "x(1=1):x(1=1)", -1006, "x(1=1)<x(1=1)", -1006, "x(1=1)x(1=1)", -1006, "x(1=1);;x(1=1)", -1007,
            ";x(1=1)", -1000, "x(1=1);", -1007);

        says(5, "a letter, E, and (C), of x only (C):");
        laws("e1(1=1)", 1, "c1(1=1)", 1, "r1(1=1)", 1, "x(1=1)", 1, "e(1=1)", -1001, "c(1=1)", -1001, "r(1=1)", -1001, "x1(1=1)", -1001,
            "xn(1=1)", -1001, "e1", -1002, "c1", -1002, "r1", -1002, "x", -1001, "e1(1)", -1004, "e1[1=1]", -1002, "(1=1)", -1000, "1(1=1)",
            -1000);
        for (int sign = 0; sign < 256; sign++) {
            boolean rule = sign == 'e' || sign == 'c' || sign == 'r';
            laws((char) sign + "1(1=1)", rule ? 1 : sign == 'x' ? -1001 : -1000);
        }
    }

    private static void kinds() {
        says(8, "e how carriers like a stage (0 to 9999)");
        after("L3", "a2c2", "e9998(f=0);e9999(f=2)", "2 1 0");
        after("L3", "a2c2", "e9999(f=0);e10000(f=2)", "0 1 2");
        after("L3", "a2c2", "e9998(f=0);e99999(f=2)", "2 1 0");
        after("L3", "a2c2", "e0-5(f=0);e1(f=2)", "2 1 0");
        after("L3", "a2c2", "e0-1(1=1)", "2 0 2");
        after("L3", "a2c2", "e0(1=1)", "2 0 2");
        after("L3", "a2c2", "e1(1=1)", "0 1 2");

        says(8, "c JARS that it costs (2 to 9; none: 2)");
        for (int cost = 0; cost <= 12; cost++) {
            int due = Math.max(2, Math.min(9, cost));
            after("L2", "a30", "e1(1=1);c" + cost + "(1=1)", 30 - due + " 1");
            after("L2", "a" + due, "e1(g=1);c" + cost + "(1=1)", "0 1");
            after("L2", "a" + (due - 1), "e1(1=1);c" + cost + "(1=1)", due - 1 + " 0");
        }
        after("L2", "a30", "e1(1=1);c0-3(1=1)", "28 1");
        after("L2", "a30", "e1(1=1);c99999(1=1)", "21 1");
        after("L2", "a30", "e1(1=1)", "28 1");
        after("L2", "a30", "e1(1=1);c5(1=2)", "28 1");

        says(8, "r tenths that a robber takes one at a WELL (0 to 10)");
        for (int draw = 0; draw < 10; draw++) {
            int seed = 0;
            for (int i = 0; drawn(seed, 2) != draw && i < 65536; i++) {
                seed++;
            }
            DesertJars x = Desk.at("L2", "a5");
            x.seed(seed);
            for (int tenths = 0; tenths <= 12; tenths++) {
                Desk.law(x, "r" + tenths + "(1=1)");
                due("a DRAW of " + draw + " by r" + tenths, x.tried(1, 1), draw < tenths ? 1 : 0);
            }
            Desk.law(x, "r0-1(1=1)");
            due("a DRAW of " + draw + " by r0-1", x.tried(1, 1), 0);
            Desk.law(x, "r99999(1=1)");
            due("a DRAW of " + draw + " by r99999", x.tried(1, 1), 1);
        }
    }

    private static void ruling() {
        says(8, "x nobody goes on THE DAY (any will do; without an x in THE LAW they may):");
        after("L2", "a4", "e1(1=1)", "2 1");
        after("L2", "a4", "e1(1=1);x(1=2)", "2 1");
        after("L2", "a4", "e1(1=1);x(1=1)", "4 0");
        after("L2", "a4", "x(1=1);e1(1=1)", "4 0");
        after("L2", "a4", "x(1=2);e1(1=1);x(1=1)", "4 0");
        after("L2", "a4", "x(1=1);e1(1=1);x(1=2)", "4 0");
        after("L2", "a4", "x(1=2);e1(1=1);x(1=2)", "2 1");
        after("L2", "a4", "x(1=1);e1(1=1);r10(1=1)", "3 0");
        DesertJars x = Desk.at("L2", "a9");
        Desk.law(x, "e1(1=1);x(d=1)");
        due("on that DAY alone", 100 * x.tried(1, 0) + 10 * x.tried(2, 0) + x.tried(3, 0), 112);

        says(8, "of the first RULE of e, c, r whose C holds the E (beyond its bounds the bound; of e, r none: 0).");
        after("L3", "a2c2", "e5(f=2);e9(1=1)", "0 1 2");
        after("L3", "a2c2", "e9(f=2);e5(1=1)", "2 1 0");
        after("L3", "a2c2", "e1(1=2);e2(f=2);e9(f=2);e2(f=0)", "0 1 2");
        after("L2", "a9", "e0(1=1);e1(1=1)", "9 0");
        after("L2", "a9", "c1(1=1);e1(1=1);e0(1=1)", "7 1");
        after("L2", "a9", "c3(1=1);c5(1=1);e1(1=1)", "6 1");
        after("L2", "a9", "c3(1=2);c5(1=1);c4(1=1);e1(1=1)", "4 1");
        after("L2", "a9", "r0(1=1);r10(1=1)", "9 0");
        after("L2", "a9", "r10(1=1);r0(1=1)", "8 0");
        after("L2", "a9", "r0(1=2);r10(1=1)", "8 0");
        after("L2", "a9", "c5(1=1);r10(1=2)", "9 0");
        after("L2", "a9", "e1(1=2);r10(1=1)", "8 0");
    }

    private static int drawn(int seed, int draws) {
        return Sentences.drawn(seed, draws) % 10;
    }

    private static void conditions() {
        says(5, "C: PARTS with a | between two, one of which must hold; a PART: TESTS with an & between two, all of which must;");
        for (int bits = 0; bits < 16; bits++) {
            boolean a = (bits & 1) != 0;
            boolean b = (bits & 2) != 0;
            boolean c = (bits & 4) != 0;
            boolean d = (bits & 8) != 0;
            String first = a ? HOLDS : FAILS;
            String second = b ? HOLDS : FAILS;
            String third = c ? HOLDS : FAILS;
            String fourth = d ? HOLDS : FAILS;
            hold(first + "|" + second, a || b);
            hold(first + "&" + second, a && b);
            hold(first + "|" + second + "&" + third, a || b && c);
            hold(first + "&" + second + "|" + third, a && b || c);
            hold(first + "&" + second + "|" + third + "&" + fourth, a && b || c && d);
            hold(first + "|" + second + "|" + third + "|" + fourth, a || b || c || d);
            hold(first + "&" + second + "&" + third + "&" + fourth, a && b && c && d);
            hold(first + "|" + second + "&" + third + "|" + fourth, a || b && c || d);
            hold("(" + first + "|" + second + ")&(" + third + "|" + fourth + ")", (a || b) && (c || d));
        }
        laws("x(1=1|)", -1006, "x(|1=1)", -1002, "x(1=1&)", -1006, "x(&1=1)", -1002, "x(1=1||1=1)", -1006, "x(1=1&&1=1)", -1006, "x(1=1,1=1)",
            -1005);

        says(5, "a TEST: !TEST, (C), or E, one of < > =, and E.");
        hold("1<2", true, "2<1", false, "1<1", false, "1>2", false, "2>1", true, "1>1", false, "1=1", true, "1=2", false, "2=1", false,
            "0-1<0", true, "0>0-1", true);
        hold("!1=2", true, "!1=1", false, "!!1=1", true, "!!1=2", false, "!!!!!1=2", true, "!(1=2)", true, "!(!1=1)", true, "((((1=1))))", true,
            "!1=2&1=2", false, "!1=1|1=1", true, "!(1=2&1=2)", true, "!(1=1|1=1)", false, "!1=1&1=2", false, "1=1&!1=2", true,
            "(1=2|1=1)&1=1", true, "1=1|(1=1&1=2)&1=2", true, "(1=2)|(1=2)", false);
        laws("x(1<2<3)", -1005, "x(1<=2)", -1004, "x(1==2)", -1004, "x(1<)", -1004, "x(<1)", -1002, "x(!)", -1003, "x(1!=2)", -1003, "x((1)=1)",
            -1004, "x((1=1)=1)", -1007, "x([1=1])", -1004, "x()", -1002, "x(1?2)", -1003);
    }

    private static void reckoning() {
        says(5, "E: TERMS with + or - between two; a TERM: FACTORS with one of * / % between two; from the left on;");
        hold("8-4-2=2", true, "8-4+2=6", true, "8+4-2=10", true, "2+3*4=14", true, "2*3+4=10", true, "20-2*3-4=10", true, "8/4*2=4", true,
            "8*4/2=16", true, "7%4*2=6", true, "2*7%4=2", true, "100/7%5=4", true, "100%7/2=1", true, "1+2*3-4/2+5%3=7", true, "1-2*3=0-5", true,
            "2*3*4*5=120", true, "3-1>1", true);
        laws("e1+(1=1)", -1003, "e+1(1=1)", -1001, "e-1(1=1)", -1001, "e1*(1=1)", -1003, "e1++1(1=1)", -1003, "e1*-1(1=1)", -1003, "e*1(1=1)",
            -1001, "e1^2(1=1)", -1002, "x(1+=1)", -1004, "x(1=1+)", -1006);

        says(5, "a FACTOR: [E], a number of one to five digits, or a letter:");
        hold("[1]=1", true, "9-[4-2]=7", true, "2*[3+4]=14", true, "[[[1+1]]]=2", true, "[7]-[3]=4", true, "100/[2*5]=10", true, "0=00000", true,
            "00007=7", true, "99999=9999*10+9", true, "99999+1=100*1000", true, "12345=12344+1", true, "9=8+1", true, "98-97=1", true);
        laws("e123456(1=1)", -2006, "e[](1=1)", -1002, "e[1(1=1)", -1003, "e1](1=1)", -1002, "e[1)(1=1)", -1003, "e1[1](1=1)", -1002, "en1(1=1)",
            -1002, "e1n(1=1)", -1002, "effs(1=1)", -1002);
        for (int sign = 0; sign < 256; sign++) {
            char c = (char) sign;
            boolean factor = "fgnmsqjdw".indexOf(c) >= 0 || c >= '0' && c <= '9';
            // What opens something can stand there; then what it opens is missed.
            laws("x(" + c + "=1)", factor ? 1 : c == '(' || c == '[' || c == '!' ? -1003 : -1002);
            laws("e1*" + c + "(1=1)", factor ? 1 : c == '[' ? -1004 : -1003);
        }

        says(8, "f the WELL it goes from (in r the WELL), g the one it goes to (in r 0)");
        after("L3", "a2b2c2", "e1(f=1&g=0)", "3 0 2");
        after("L3", "a2b2c2", "e1(f=1&g=2)", "2 0 3");
        after("L3", "a2b2c2", "e1+f(1=1)", "2 3 0");
        after("L3", "b2", "e1+g(1=1)", "0 0 1");
        after("L3", "a2b2c2", "r10(f=1)", "2 1 2");
        after("L3", "a2b2c2", "r10(f=0|f=2)", "1 2 1");
        after("L3", "a2b2c2", "r10(g=0)", "1 1 1");
        after("L3", "a2b2c2", "r10(g>0|g<0)", "2 2 2");
        after("K12", "l2", "e1(f=11&g=10)", "0 0 0 0 0 0 0 0 0 0 1 0");

        says(8, "n JARS at f, m JARS at g (in r 0)");
        after("L3", "a3b5c4", "e1(n=5&m=4)", "3 3 5");
        after("L3", "a3b5c4", "e1(n=4&m=5)", "3 6 2");
        after("L3", "a3b5c4", "e1+n(1=1)", "4 3 4");
        after("L3", "a3b5c4", "r10(n=4)", "3 5 3");
        after("L3", "a3b5c4", "r10(m=0)", "2 4 3");
        after("L3", "a3b5c4", "r10(m>0)", "3 5 4");
    }

    private static void letters() {
        says(8, "s steps from g (in r from f) to THE QUEEN (99 if there is no way)");
        DesertJars x = Desk.at("L5", "c2");
        x.queen(4);
        Desk.law(x, "e1(s=1)");
        due("from g, nearer", x.tried(1, 13), 1);
        Desk.law(x, "e1(s=3)");
        due("from g, farther", x.tried(1, 11), 1);
        Desk.law(x, "e1(s=2)");
        due("not from f", x.tried(1, 0), 0);
        Desk.law(x, "r10(s=2)");
        due("in r from f", x.tried(1, 1), 1);
        Desk.law(x, "r10(s=4)");
        due("in r not from 0", x.tried(1, 1), 0);
        x.queen(2);
        Desk.law(x, "r10(s=0)");
        due("in r at THE QUEEN", x.tried(1, 1), 1);
        after("L4;b/c", "c2", "e1(s=99)", "0 0 0 1");
        after("L4;b/c", "b2", "e1(s=0)", "1 0 0 0");
        after("L4;b/c", "b2c2", "r10(s=99)", "0 2 1 0");
    }

    private static void otherLetters() {
        says(8, "q THE QUEEN's WELL, j JARS of all, d THE DAY modulo 100, w the DRAW of THE DAY (f, g, n, m, s in x 0).");
        for (int queen = 0; queen < 3; queen++) {
            DesertJars x = Desk.at("L3", "a2");
            x.queen(queen);
            Desk.law(x, "e1(q=" + queen + ")");
            due("q in e", x.tried(1, 0), 1);
            Desk.law(x, "r10(q=" + queen + ")");
            due("q in r", x.tried(1, 1), 1);
            Desk.law(x, "e1(1=1);x(q=" + queen + ")");
            due("q in x", x.tried(1, 0), 0);
        }
        after("L3", "a4b3c2", "e1(j=9)", "2 4 2");
        after("L3", "a4b3c2", "e1(1=1);x(j=9)", "4 3 2");
        after("L3", "a4b3c2", "r10(j=9)", "3 3 2");
        after("L3", "a4b3c2", "r10(j=8)", "4 3 2");
        after("L3", "a4b3c2", "e1(1=1);r10(j=8)", "1 4 2");
        after("K12", "a40b40c40d40e40f40g40h40i40j40k40l40", "r10(j=480)", "39 40 40 40 40 40 40 40 40 40 40 40");
        days();
        for (int seed = 0; seed < 60000; seed += 2003) {
            DesertJars x = Desk.at("L3", "a4");
            x.seed(seed);
            int draw = Sentences.drawn(seed, 1) % 10;
            Desk.law(x, "e1(w=" + draw + ")");
            due("w in e", x.tried(1, 0), 1);
            Desk.law(x, "e1(1=1);x(w=" + draw + ")");
            due("w in x", x.tried(1, 0), 0);
            Desk.law(x, "r10(w=" + draw + ")");
            due("w in r is that of THE DAY, not another", x.tried(1, 1), 1);
        }
        DesertJars x = Desk.at("L3;b/c", "a4b5c6");
        x.queen(2);
        for (String letter : new String[] {"f", "g", "n", "m", "s"}) {
            Desk.law(x, "e1(1=1);x(" + letter + "=0)");
            due(letter + " in x", x.tried(2, 0), 0);
            Desk.law(x, "e1(1=1);x(" + letter + ">0)");
            due(letter + " in x, not more", x.tried(2, 0), 2);
        }
    }

    private static void days() {
        DesertJars x = Desk.at("L2", "a40");
        Desk.law(x, "e1(d=99&g=1)");
        due("d is not 99 on the first 99 DAYS", x.days(99), 0);
        due("d is 99 on the next", x.days(1), 1);
        Desk.law(x, "e1(d=0&g=1)");
        due("d is 0 on the DAY 100", x.days(1), 1);
        due("and on the DAY 200", x.days(100), 1);
        due("not between", x.days(99), 0);
        Desk.law(x, "r10(d=0)");
        due("in r", x.tried(1, 1), 2);
        Desk.law(x, "e1(g=1);x(d=1)");
        due("in x", 10 * x.tried(1, 0) + x.tried(2, 0), 11);
    }

    private static void machine() {
        says(8, "All is reckoned with 32 bits, as the machine does;");
        // 99999 * 99999 = 9999800001 = 1409865409 (mod 2 to the 32).
        hold("99999*99999/10000=14098*10+6", true, "99999*99999%10000=5409", true, "65536*65536=0", true, "65536*32768<0", true,
            "65536*32768-1>0", true, "32768*65535+32767>0", true, "32768*65535+32768<0", true, "0-65536*32768=65536*32768", true,
            "[0-65536*32768]/[0-1]<0", true, "[0-65536*32768]/[0-1]=65536*32768", true, "[0-65536*32768]%[0-1]=0", true,
            "[0-7]/2=0-3", true, "[0-7]%2=0-1", true, "7/[0-2]=0-3", true, "7%[0-2]=1", true, "[0-7]/[0-2]=3", true, "1/2=0", true);
        after("L3", "a2c2", "e65536*32768(f=0);e1(f=2)", "2 1 0");
        after("L3", "a2c2", "e65536*32768-1(f=2);e9998(f=0)", "2 1 0");

        says(8, "what is divided by 0 is REFUSED: then the whole C of the RULE does not hold, the E of it is 0.");
        hold("1/0=0", false, "1%0=0", false, "0/0=0", false, "!1/0=0", false, "!(1/0=1)", false, "!!1%0=1", false, "1/0=0|1=1", false,
            "(1/0=0)|1=1", false, "(1/0=0|1=1)|1=1", false, "!(1/0=0)|1=1", false, "1=1&1/0=0|1=1", false, "1=1/0|1=1", false,
            "1/[1-1]=0|1=1", false, "[1/0]=0|1=1", false, "1/f=0|1=1", false, "1%f<1|1=1", false, "1/0*0=0|1=1", false, "0*[1/0]=0|1=1", false,
            "0/1=0", true, "0%1=0", true);
        after("L2", "a9", "e1/0(1=1)", "9 0");
        after("L2", "a9", "e5+1/0(1=1)", "9 0");
        after("L2", "a9", "e5+1%0(1=1);e5(1=1)", "9 0");
        after("L2", "a9", "e1(1/0=0);e1(1=1)", "7 1");
        after("L2", "a9", "e1(1=1);c7+1/0(1=1)", "7 1");
        after("L2", "a9", "e1(1=1);c7(1/0=0);c5(1=1)", "4 1");
        after("L2", "a9", "r10+1/0(1=1)", "9 0");
        after("L2", "a9", "r10+1/0(1=1);r10(1=1)", "9 0");
        after("L2", "a9", "r3(1%0=0);r10(1=1)", "8 0");
        after("L2", "a9", "e1(1=1);x(1/0=0)", "7 1");
        after("L2", "a9", "e1(1=1);x(1/0=0);x(1=1)", "9 0");
        after("L2", "a9", "e9/f(1=1)", "9 0");
        after("L2", "b9", "e9/f(1=1)", "1 7");

        says(8, "Of a C as much is asked, from the left, as matters.");
        hold("1=1|1/0=0", true, "1=1|1=1&1/0=0", true, "1=2&1/0=0|1=1", true, "1=2&1/0=0", false, "!(1=2&1/0=0)", true, "!(1=1|1/0=0)", false,
            "(1=1|1/0=0)&1=1", true, "(1=2&1/0=0)|1=1", true, "1=2&1=1&1/0=0|1=1", true, "1=2|1=1|1/0=0", true, "1=1&1=2&1/0=0|1=1", true,
            "1=2&(1=1|1/0=0)|1=1", true, "1=2&!1/0=0|1=1", true, "1=1|!(1/0=0)", true, "1=2|1/0=0|1=1", false, "1=1&1/0=0|1=1", false,
            "1=2&1=1|1/0=0", false, "1=1|1/0=0&1=2|1/0=0", true, "(1=2&1/0=0|1=1)&(1=1|1%0=1)", true);
        after("L2", "a9", "e1(1=1);e1/0(1=1);c2(1=1);c1/0(1/0=0)", "7 1");
    }

    private static void faults() {
        says(5, "FAULTS, the first from the left: 1 what can't stand there (the end, too);");
        laws("e123456(1", -2006, "e[[[[[[[123456", -5007, "y[[[[[[[", -1000, "x(1=1", -1005, "e1(1=1)x", -1007, "e1 [[[[[[[", -1002,
            "x(123456=[[[[[[[1", -2007, "x((((((((", -5007, "x(((((()(", -1007);
        String text = "e12+n*[2/g](f<3&!(1=1)|d=3%7);x(w>4);c3(1=1)";
        for (int i = 1; i <= text.length(); i++) {
            String ahead = text.substring(0, i);
            int rules = i == text.length() ? 3 : i == 36 ? 2 : i == 29 ? 1 : -1000 - i;
            laws(ahead, rules);
        }
        for (int sign : new int[] {0, ' ', '"', '~', 'z', 'E', 127, 128, 255}) {
            for (int i = 0; i < text.length(); i++) {
                laws(text.substring(0, i) + (char) sign + text.substring(i + 1), -1000 - i);
            }
        }

        says(5, "2 a sixth digit, at it;");
        laws("e12345(1=1)", 1, "e123456(1=1)", -2006, "e000000(1=1)", -2006, "e1234567(1=1)", -2006, "x(123456=1)", -2007, "x(1=123456)", -2009,
            "x(1=12345)", 1, "e1+[123456](1=1)", -2009, "e12345+123456(1=1)", -2012, "e99999*99999(1=1)", 1, "x(1=1);e000001(1=1)", -2013);

        says(5, "4 a 17th RULE, at its letter (if that can stand there);");
        String sixteen = times("x(1=1)", 16, ";");
        due("bytes of sixteen", sixteen.length(), 111);
        laws(sixteen, 16, sixteen + ";e", -4112, sixteen + ";c", -4112, sixteen + ";r", -4112, sixteen + ";x", -4112, sixteen + ";x(1=1)", -4112,
            sixteen + ";e~", -4112, sixteen + ";", -1112, sixteen + ";f", -1112, sixteen + ";;", -1112, sixteen + "x", -1111, sixteen + ";(1=1)",
            -1112);

        says(5, "5 a seventh of ( [ ! that are open in one another, at it");
        laws("e[[[[[[1]]]]]](1=1)", 1, "e[[[[[[[1]]]]]]](1=1)", -5007, "x((((((1=1))))))", 1, "x(((((((1=1)))))))", -5007, "x(!!!!!1=1)", 1,
            "x(!!!!!!1=1)", -5007, "x(!(!(!1=1)))", 1, "x(!(!(!(1=1))))", -5007, "x(!!!!([1]=1))", -5007, "x(!!!([1]=1))", 1,
            "x(((([[1]]=1))))", 1, "x(((([[[1]]]=1))))", -5007, "x(1=[[[[[1]]]]])", 1, "x(1=[[[[[[1]]]]]])", -5009, "e[[[[[[[", -5007,
            "x(((((((", -5007, "x(!!!!!!", -5007);
        // Where it can't stand, it is no seventh one.
        laws("e[[[[[[(1", -1007, "e[[[[[[!1", -1007, "e[[[[[[1(", -1008, "e[[[[[[1[", -1008, "x((((((1(", -1008, "x((((((1=1(", -1010,
            "x((((((1=1!", -1010, "x(!!!!!1[", -1008);

        says(5, "(the ( of the RULE counts; a ! is open till its TEST ends; the E of a RULE stands ahead of it).");
        laws("x(((((([1]=1))))))", -5007, "x((((([1]=1)))))", 1, "x(!!!!!1=1&!!!!!1=1)", 1, "x(!!!!!1=1|!!!!!1=1)", 1, "x(!!!!!1=1&!!!!!!1=1)",
            -5016, "x(!!!!1=[1])", 1, "x(!!!!!1=[1])", -5009, "x(!!!!!1=1&[1]=1)", 1, "x(!!!!!1=1&[[[[[1]]]]]=1)", 1,
            "x(!!!!(1=1)&((((1=1)))))", 1, "x(!!!!(1=1)&(((((1=1))))))", 1, "x(!!!!(1=1)&((((((1=1)))))))", -5017,
            "e[[[[[[1]]]]]]((((((1=1))))))", 1, "e[[[[[[1]]]]]](((((((1=1)))))))", -5020, "e[[[[[[1]]]]]]+[[[[[[1]]]]]](1=1)", 1,
            "x((((((1=1))))));x((((((1=1))))))", 2, "x(!(1=1)&!(1=1)&!(1=1)&!(1=1)&!(1=1))", 1);
    }

    static void all() {
        texts();
        kinds();
        ruling();
        conditions();
        reckoning();
        letters();
        otherLetters();
        machine();
        faults();
    }
}
