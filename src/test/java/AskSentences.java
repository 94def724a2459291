import java.util.function.BiConsumer;
import java.util.function.IntUnaryOperator;

/** "Terms" about what is asked of a desert: MOVES, NUMBERS, PAPERS, PRODUCTS, ROBBERS, LEDGERS, SYMMETRIES, what is KEPT. */
final class AskSentences {
    private static final int NONE = Sentences.NONE;

    private AskSentences() {
    }

    private static void says(int promise, String words) {
        Sentences.saysOf(promise, words);
    }

    private static void due(String call, long got, long want) {
        Sentences.due(call, got, want);
    }

    private static void due(String call, boolean got, boolean want) {
        Sentences.due(call, got, want);
    }

    private static String times(String text, int n, String between) {
        return Sentences.times(text, n, between);
    }

    private static void reach(String land, String laying, int w, int k, boolean both, int moves) {
        due("reach " + k + " at " + w + " in " + land + " from " + laying + (both ? " from both sides" : ""),
            Desk.at(land, laying).reach(w, k, both, 0), moves);
    }

    /** The first MOVE as digits: from, other from, to. */
    private static void first(String land, String laying, int w, boolean both, int a, int b, int to) {
        due("first MOVE to " + w + " in " + land + " from " + laying, Desk.at(land, laying).reach(w, 1, both, 1), 256 * a + 16 * b + to);
    }

    private static void moves() {
        says(12, "Below, a MOVE takes two JARS from a WELL and lays one at a WELL NEXT to it (THE LAW, ROOM aside);");
        reach("L2", "a2", 1, 1, false, 1);
        reach("L2", "a1", 1, 1, false, -2);
        reach("L3", "a2", 2, 1, false, -2);
        reach("L3", "a3b1", 2, 1, false, 2);
        reach("L2;a/b", "a9", 1, 1, false, -2);
        DesertJars x = Desk.at("L2", "a2");
        x.room(1, 0);
        Desk.law(x, "x(1=1);e0(1=1);c9(1=1);r10(1=1)");
        due("THE LAW and ROOM aside", x.reach(1, 1, false, 0), 1);
        due("in a LEDGER too", Desk.ledger(x, "a>b", 0), 1);

        says(12, "if carriers come FROM BOTH SIDES, a MOVE may take one each from two unlike WELLS, too, and lay it at one NEXT to both.");
        reach("L3", "a1c1", 1, 1, false, -2);
        reach("L3", "a1c1", 1, 1, true, 1);
        reach("L2", "a2", 1, 1, true, 1);
        reach("L2", "a1", 1, 1, true, -2);
        reach("L4", "a1d1", 1, 1, true, -2);
        reach("L4", "a1b1", 2, 1, true, -2);
        reach("L3", "a1b1", 2, 1, true, -2);
        reach("R4", "b1d1", 2, 1, true, 1);
        reach("R4", "b1d1", 1, 2, true, -2);
        reach("K3", "a1b1", 2, 1, true, 1);
        reach("K8", "a1b1c1d1e1f1g1", 7, 3, true, 3);
        reach("K8", "a1b1c1d1e1f1g1", 7, 4, true, -2);

        says(12, "REACH: the fewest MOVES by which k JARS at least are at a WELL from JARS as they lie;");
        reach("L3", "c4", 0, 1, false, 3);
        reach("L4", "d8", 0, 1, false, 7);
        reach("L4", "c1d8", 0, 1, false, 6);
        reach("L4", "d7", 0, 1, false, -2);
        reach("L3", "c8", 0, 2, false, 6);
        reach("L3", "a1c4", 0, 2, false, 3);
        reach("L3", "a2", 0, 1, false, 0);
        reach("L3", "a2", 0, 2, false, 0);
        reach("L3", "a2", 0, 3, false, -2);
        reach("R5", "c4", 0, 1, false, 3);
        reach("K4", "b4c2", 0, 3, false, 3);
        reach("K4", "b3c3", 0, 3, false, -2);
        reach("S4", "b2c2", 3, 1, false, 3);
        due("nothing is changed", unchangedByReach(), true);
        rounds(12, 8, 6, 10, (pair, told) -> pair.askReach(false, told));
        rounds(8, 4, 8, 12, (pair, told) -> pair.askReach(false, told));
    }

    private static void firstMoves() {
        says(12, "the first MOVE (of like ones the one by two JARS of one WELL, by the lowest from, then the lowest to; then those from both"
            + " sides, by the lower from, the other, then to).");
        first("L3", "c4", 0, false, 2, 2, 1);
        first("K4", "a2b2c2", 3, false, 0, 0, 3);
        first("K4", "b2c2", 3, true, 1, 1, 3);
        first("R4", "a4", 2, false, 0, 0, 1);
        first("R4", "c4", 0, false, 2, 2, 1);
        first("S4", "b2c2", 3, false, 1, 1, 0);
        first("K3", "a1b2", 2, true, 1, 1, 2);
        first("K4", "a1b1c1", 3, true, 0, 1, 3);
        first("K4", "b1c1a0", 3, true, 1, 2, 3);
        first("K4;a/d", "a1b1c1", 3, true, 1, 2, 3);
        first("K5;a/b", "a1b1c1d1", 4, true, 0, 1, 4);
        // From a and c one comes to b, which then has two, or to d; both then do it in one MOVE more.
        first("K5;a/c;b/d;a/e;c/e", "a1b1c1", 4, true, 0, 2, 1);
        // Fewer MOVES come first: c's two are there at once.
        first("L4", "a4c2", 3, false, 2, 2, 3);
        rounds(12, 8, 6, 10, (pair, told) -> pair.askReach(true, told));

        says(12, "Of more than 8 WELLS, more than 12 JARS in all nothing is told (-4).");
        reach("L8", "a12", 1, 1, false, 1);
        reach("L8", "a12", 0, 12, false, 0);
        reach("L8", "a12", 0, 13, false, -2);
        reach("L8", "a13", 1, 1, false, -4);
        reach("L8", "a13", 0, 1, false, -4);
        reach("L8", "a7b6", 0, 1, true, -4);
        reach("L9", "a0", 0, 1, false, -4);
        reach("L9", "a2", 1, 1, true, -4);
        reach("K12", "a40", 0, 1, false, -4);
        due("of the first MOVE neither", Desk.at("L9", "a2").reach(1, 1, false, 1), -4);
        due("13 JARS, the first MOVE", Desk.at("L2", "a13").reach(0, 1, false, 1), -4);
    }

    /** So many deserts, each with a few lands one after the other, against the slow model. */
    private static void rounds(int deserts, int lands, int mostWells, int jars, BiConsumer<Pair, String> asked) {
        for (int desert = 0; desert < deserts; desert++) {
            Pair pair = new Pair(1000L * jars + desert);
            for (int i = 0; i < lands; i++) {
                String land = pair.newLand(mostWells);
                asked.accept(pair, land + " with " + pair.newLaying(jars > 0 ? 1 + (desert + i) % jars : 0));
            }
        }
    }

    private static boolean unchangedByReach() {
        DesertJars x = Sentences.lived();
        Desk.laying(x, "a5b2d4f1");
        String before = Sentences.seen(x);
        x.reach(2, 2, true, 0);
        x.reach(2, 1, false, 1);
        return Sentences.seen(x).equals(before);
    }

    /** THE NUMBER of a WELL, how many layings, and the greatest row, "0 0 3". */
    private static void number(String land, int w, int number, int layings, String row) {
        DesertJars x = Desk.at(land);
        due("NUMBER of " + w + " in " + land, x.number(w, 100), number);
        due("layings for " + w + " in " + land, x.number(w, 101), layings);
        Sentences.dueText("row for " + w + " in " + land, row(x, v -> x.number(w, v)), row);
    }

    private static String row(DesertJars x, IntUnaryOperator jars) {
        StringBuilder all = new StringBuilder();
        for (int v = 0; v < x.count(1); v++) {
            all.append(v > 0 ? " " : "").append(jars.applyAsInt(v));
        }
        return all.toString();
    }

    private static void numbers() {
        says(13, "IN VAIN for a WELL are JARS laid elsewhere so that no MOVES (from one WELL) bring one there.");
        for (String land : new String[] {"L4", "R5", "S4", "K5", "L2*L3"}) {
            DesertJars x = Desk.at(land);
            for (int w = 0; w < x.count(1); w++) {
                StringBuilder laying = new StringBuilder();
                for (int v = 0; v < x.count(1); v++) {
                    laying.append(Sentences.letter(v)).append(x.number(w, v));
                }
                due(land + ": none at the WELL itself", x.number(w, w), 0);
                DesertJars vain = Desk.at(land, laying.toString());
                due(land + ": so many JARS", vain.count(3), x.number(w, 100) - 1);
                due(land + ": none can be brought", vain.reach(w, 1, false, 0), -2);
            }
        }
        due("from both sides more can be done, but does not count", Desk.at("K3").number(2, 100), 3);

        says(13, "THE NUMBER of a WELL: one more than the most JARS that may be laid IN VAIN; how many layings of so many are IN VAIN; JARS at a"
            + " WELL in the one of them whose row by WELLS is greatest.");
        number("L1", 0, 1, 1, "0");
        number("L2", 0, 2, 1, "0 1");
        number("L3", 0, 4, 1, "0 0 3");
        number("L3", 1, 3, 1, "1 0 1");
        number("L4", 1, 5, 1, "1 0 0 3");
        number("L6", 0, 32, 1, "0 0 0 0 0 31");
        number("K12", 5, 12, 1, "1 1 1 1 1 0 1 1 1 1 1 1");
        number("R3", 0, 3, 1, "0 1 1");
        // One at each other WELL, or three at the one across.
        number("R4", 0, 4, 2, "0 1 1 1");
        number("R4", 2, 4, 2, "3 0 0 0");
        // Of c and d: 3 1, 2 2, 1 3; b and 3 at d, e and 3 at c; one at each.
        number("R5", 0, 5, 6, "0 1 1 1 1");
        number("R5", 3, 5, 6, "3 1 0 0 0");
        // Three at one of the two other ends, one at the other.
        number("S4", 1, 5, 2, "0 0 3 1");
        number("S4", 3, 5, 2, "0 3 1 0");
        number("S4", 0, 4, 1, "0 1 1 1");
        rounds(12, 6, 6, 0, Pair::askNumbers);
    }

    private static void landNumbers() {
        says(14, "THE LAND's NUMBER is the greatest of its WELLS.");
        Object[] lands = {"L1", 1, 0, "L2", 2, 0, "L5", 16, 0, "S4", 5, 1, "S5", 6, 1, "K12", 12, 0, "R7", 11, 0, "L4;d/c;d-b", 5, 0,
            "L3;a/c", 4, 0};
        for (int i = 0; i < lands.length; i += 3) {
            DesertJars x = Desk.at((String) lands[i]);
            due("of " + lands[i], x.landNumber(0), (Integer) lands[i + 1]);
            due("the WELL of " + lands[i], x.landNumber(1), (Integer) lands[i + 2]);
            int most = 0;
            for (int w = 0; w < x.count(1); w++) {
                most = Math.max(most, x.number(w, 100));
            }
            due("the greatest of " + lands[i], x.landNumber(0), most);
        }
        rounds(6, 20, 6, 0, Pair::askLandNumber);

        says(13, "(Is there no way from some WELL to it: -2; come the steps from all WELLS to it to more than 16: -4.)");
        due("no way", Desk.at("L3;a/b").number(0, 100), -2);
        due("no way for others", Desk.at("L3;a/b").number(2, 100), -2);
        due("no way, of a land", Desk.at("L3;a/b").landNumber(0), -2);
        due("15 steps", Desk.at("S9").number(1, 100), 10);
        due("16 steps in a ring", Desk.at("R8").number(0, 100), 16);
        due("16 steps in a line", Desk.at("L7").number(1, 100), 33);
        due("17 steps", Desk.at("S10").number(1, 100), -4);
        due("21 steps", Desk.at("L7").number(0, 100), -4);
        due("11 steps", Desk.at("S12").number(0, 100), 12);
        due("of a land with one that is too far", Desk.at("L7").landNumber(0), -4);
    }

    private static void fewest(String land, int jars, int layings, String row) {
        DesertJars x = Desk.at(land);
        due("FEWEST of " + land, x.fewest(100), jars);
        due("layings of " + land, x.fewest(101), layings);
        Sentences.dueText("row of " + land, row(x, x::fewest), row);
    }

    private static void fewestAndAtOnce() {
        says(15, "THE FEWEST: of THE LAND the fewest JARS that can be laid so that to each WELL one can be brought (from that laying each time); how"
            + " many such layings; JARS at a WELL in the one whose row by WELLS is greatest;");
        fewest("L1", 1, 1, "1");
        fewest("L2", 2, 3, "2 0");
        fewest("L3", 2, 1, "0 2 0");
        fewest("K7", 2, 7, "2 0 0 0 0 0 0");
        fewest("S7", 2, 1, "2 0 0 0 0 0 0");
        fewest("L2;a/b", 2, 1, "1 1");
        fewest("L3;a/b", 3, 3, "1 2 0");
        fewest("K7" + ";a/b;a/c;a/d;a/e;a/f;a/g", 3, 6, "1 2 0 0 0 0 0");
        // Two at c bring one to b and d, so one at a or at b is enough beside them; and the mirror of these.
        fewest("L4", 3, 4, "1 0 2 0");
        rounds(12, 20, 6, 0, Pair::askFewest);

        says(15, "of more than 7 WELLS nothing is told (-4).");
        due("7 WELLS", Desk.at("L7").fewest(100), 5);
        due("8 WELLS", Desk.at("L8").fewest(100), -4);
        due("8 WELLS, layings", Desk.at("K8").fewest(101), -4);
        due("8 WELLS, of a WELL", Desk.at("K8").fewest(0), -4);
        due("12 WELLS", Desk.at("K12").fewest(100), -4);

        says(16, "AT EACH AT ONCE: JARS that are enough, however they lie, to have one at each WELL at once: the greatest, over WELLS, of the sum of"
            + " 2 to the steps from it to all.");
        Object[] lands = {"L1", 1, "L2", 3, "L3", 7, "L12", 4095, "K12", 23, "S4", 11, "S12", 1 + 2 + 40, "R4", 9, "R5", 13, "R12", 189,
            "L2*L3", 21, "L3;a-c", 5};
        for (int i = 0; i < lands.length; i += 2) {
            due("of " + lands[i], Desk.at((String) lands[i]).atOnce(), (Integer) lands[i + 1]);
        }
        rounds(6, 40, 12, 0, Pair::askAtOnce);
    }

    private static int paper(String land, int w, int... bytes) {
        DesertJars x = Desk.at(land);
        Desk.feed(x, bytes);
        return x.paper(w);
    }

    private static int joined(String land, int w, int papers, int... bytes) {
        DesertJars x = Desk.at(land);
        Desk.feed(x, bytes);
        return x.joined(w, papers);
    }

    private static void papers() {
        says(17, "A PAPER for a WELL: of each WELL a WELL (its parent, a byte) and a weight (a byte; 0: it is not in it):");
        due("all in it", paper("L4", 0, 0, 0, 0, 4, 1, 2, 2, 1), 7);
        due("one not in it", paper("L4", 0, 0, 0, 0, 4, 1, 2, 2, 0), 6);
        due("its parent does not matter then", paper("L4", 0, 0, 0, 0, 4, 1, 2, 200, 0), 6);
        due("none in it", paper("L4", 0, 9, 0, 9, 0, 9, 0, 9, 0), 0);
        due("255", paper("L4", 0, 0, 0, 0, 255, 0, 0, 0, 0), 255);
        due("of the WELL itself nothing is asked", paper("L4", 0, 77, 200, 0, 4, 1, 2, 2, 1), 7);
        due("no such parent", paper("L4", 0, 0, 0, 4, 4, 0, 0, 0, 0), -3);
        due("parent 255", paper("L4", 0, 0, 0, 255, 4, 0, 0, 0, 0), -3);
        due("of one WELL", paper("L1", 0, 3, 5), 0);

        says(17, "parents are NEXT to it and in it, or the WELL itself;");
        due("not NEXT", paper("L4", 0, 0, 0, 0, 9, 1, 4, 1, 2), -5);
        due("itself", paper("L4", 0, 0, 0, 1, 4, 0, 0, 0, 0), -3);
        due("the WELL, but not NEXT to it", paper("L4", 0, 0, 0, 0, 4, 0, 2, 0, 0), -4);
        due("NEXT, but not in it", paper("L4", 0, 0, 0, 0, 0, 1, 2, 0, 0), -4);
        due("in it, behind it", paper("L4", 3, 1, 1, 2, 2, 3, 4, 0, 0), 7);
        due("the WELL has no weight", paper("L4", 0, 0, 0, 0, 9, 0, 0, 0, 0), 9);
        due("two branches", paper("L4", 1, 1, 3, 0, 0, 1, 9, 2, 4), 16);

        says(17, "a weight is at most half of that of its parent, unless that is the WELL itself;");
        due("half", paper("L3", 0, 0, 0, 0, 8, 1, 4), 12);
        due("more than half", paper("L3", 0, 0, 0, 0, 8, 1, 5), -4);
        due("half of an odd one", paper("L3", 0, 0, 0, 0, 9, 1, 4), 13);
        due("more than half of an odd one", paper("L3", 0, 0, 0, 0, 9, 1, 5), -4);
        due("half of 255", paper("L3", 0, 0, 0, 0, 255, 1, 127), 382);
        due("more than half of 255", paper("L3", 0, 0, 0, 0, 255, 1, 128), -4);
        due("half of 1", paper("L3", 0, 0, 0, 0, 1, 1, 1), -4);
        due("any, of those NEXT to the WELL", paper("K3", 0, 0, 3, 0, 255, 0, 1), 256);
        due("each the other's parent", paper("K3", 0, 0, 0, 2, 4, 1, 2), -3);

        says(17, "then JARS IN VAIN weigh together no more than one JAR at each WELL in it: so much.");
        // For the end of L4: 4, 2, 1; the most IN VAIN are 7 at the far end.
        due("a line", paper("L4", 0, 0, 0, 0, 4, 1, 2, 2, 1) >= 1 * Desk.at("L4").number(0, 3), true);
        due("a line's sum", paper("L4", 0, 0, 0, 0, 4, 1, 2, 2, 1), 4 + 2 + 1);
        due("a star", paper("S4", 1, 1, 4, 0, 0, 0, 2, 0, 2), 8);
        due("a star holds", paper("S4", 1, 1, 4, 0, 0, 0, 2, 0, 2) >= 2 * 3 + 2 * 1, true);

        says(18, "PAPERS JOINED: 1 to 4 of them for one WELL: weights added up; if each other WELL has one: that sum through the least weight,"
            + " rounded down, and one: no NUMBER is higher.");
        due("one", joined("L4", 0, 1, 0, 0, 0, 4, 1, 2, 2, 1), 8);
        due("two", joined("L4", 0, 2, 0, 0, 0, 4, 1, 2, 2, 1, 0, 0, 0, 4, 1, 2, 2, 1), 8);
        due("four", joined("L2", 0, 4, 0, 0, 0, 1, 0, 0, 0, 2, 0, 0, 0, 3, 0, 0, 0, 4), 2);
        due("rounded down", joined("L3", 1, 1, 1, 2, 0, 0, 1, 5), 7 / 2 + 1);
        due("rounded down from just below", joined("L3", 1, 1, 1, 3, 0, 0, 1, 5), 8 / 3 + 1);
        due("by the sums, not by each", joined("L3", 1, 2, 1, 1, 0, 0, 1, 5, 1, 5, 0, 0, 1, 1), 12 / 6 + 1);
        due("weights of two", joined("R4", 0, 2, 0, 0, 0, 2, 1, 1, 0, 0, 0, 0, 0, 0, 3, 1, 0, 2), 6 / 2 + 1);
        due("the WELL's own do not count", joined("L3", 1, 1, 1, 2, 9, 200, 1, 5), 7 / 2 + 1);
        due("one has none", joined("L3", 1, 2, 1, 2, 0, 0, 0, 0, 1, 2, 0, 0, 0, 0), -100);
        due("no NUMBER is higher, R4", joined("R4", 0, 2, 0, 0, 0, 2, 1, 1, 0, 0, 0, 0, 0, 0, 3, 1, 0, 2) >= Desk.at("R4").number(0, 100), true);
        due("no NUMBER is higher, L4", joined("L4", 0, 1, 0, 0, 0, 4, 1, 2, 2, 1) >= Desk.at("L4").number(0, 100), true);
        due("of one WELL alone", joined("L1", 0, 1, 0, 0) >= Desk.at("L1").number(0, 100), true);
    }

    private static void productAndRobbers() {
        says(19, "A PRODUCT: a TEXT of a WHOLE and a WHOLE (with a , between): NUMBER of the first land times that of the second, less that of their"
            + " product.");
        // 2 times 2, 4; 3 times 4, 9; 5 times 1, 5; 6 times 2, 12.
        Object[] texts = {"L2,L2", 0, "K3,L3", 3, "L3,K3", 3, "S4,L1", 0, "L1,S4", 0, "K6,L2", 0, "(L2*L2),L2", 0, "L2*L2,L2", 0, "L1,L1", 0,
            "L2;L2", -1002, "L2*L2", -1005, "L2", -1002, "L2,", -1003};
        for (int i = 0; i < texts.length; i += 2) {
            due("product " + texts[i], Desk.product(new DesertJars(), (String) texts[i]), (Integer) texts[i + 1]);
        }
        due("by hand", Desk.at("K3").landNumber(0) * Desk.at("L3").landNumber(0) - Desk.at("K3*L3").landNumber(0), 3);

        says(20, "ROBBERS: carriers make a MOVE (from one WELL) or none, then a robber takes a JAR where he likes (if there is one), and so on: can"
            + " carriers bring one to a WELL, whatever he does (a JAR there, ahead of a robber, is enough).");
        Object[] cases = {"L3", "a1", 0, 1, "L3", "b2", 0, 1, "L3", "b1", 0, 0, "L3", "b1c11", 0, 0, "L3", "c12", 0, 0, "L3", "a0", 0, 0,
            "K3", "b1c1", 0, 0, "K3", "b1c2", 0, 1, "K3", "b1c3", 0, 1, "L2;a/b", "b9", 0, 0, "L2;a/b", "a1b9", 0, 1, "R4", "b1d1c6", 0, 0,
            "S8", "a1b1c1d1e1f1g1h5", 1, 1, "S8", "a1c1d1e1f1g1h5", 1, 0};
        for (int i = 0; i < cases.length; i += 4) {
            due("robbers for " + cases[i + 2] + " in " + cases[i] + " from " + cases[i + 1],
                Desk.at((String) cases[i], (String) cases[i + 1]).robbers((Integer) cases[i + 2]), (Integer) cases[i + 3]);
        }
        rounds(12, 12, 5, 8, Pair::askRobbers);
    }

    private static void ledgers(String land, String laying, Object... textsAndAnswers) {
        for (int i = 0; i < textsAndAnswers.length; i += 4) {
            for (int what = 0; what < 3; what++) {
                due("ledger " + textsAndAnswers[i] + " of " + laying + " in " + land + ", " + what,
                    Desk.ledger(Desk.at(land, laying), (String) textsAndAnswers[i], what), (Integer) textsAndAnswers[i + 1 + what]);
            }
        }
    }

    private static void ledgerFaults(Object... textsAndFaults) {
        for (int i = 0; i < textsAndFaults.length; i += 2) {
            for (int what = 0; what < 3; what++) {
                due("ledger " + textsAndFaults[i], Desk.ledger(Desk.at("L3", "a40"), (String) textsAndFaults[i], what),
                    (Integer) textsAndFaults[i + 1]);
            }
        }
    }

    private static void ledger() {
        says(21, "A LEDGER: a TEXT of at most 60 bytes: LINES with a ; between two (10 at most): a letter, > (62), a letter (a MOVE), or ? (63: a line"
            + " lost; 3 at most):");
        ledgers("L3", "a40", times("a>b", 10, ";"), 1, 20, 20, "a>b", 1, 38, 38, "?", 1, 38, 38, "a>b;?;a>b", 1, 34, 34, "a>b;a>b;?", 3, 34, 37);
        ledgerFaults(times("a>b", 11, ";"), -4040, "a=b", -1001, "a<b", -1001, "a?b", -1001, "@", -1000, "a>b:a>b", -1003, "a>ba>b", -1003,
            "?;?;?;?", -5006, " a>b", -1000, "a>b ", -1003, "a> b", -1002);
        // A LEDGER of ten LINES has 39 bytes: what is longer has a FAULT, or is too long to be read at all.
        DesertJars x = Desk.at("L3", "a40");
        due("60 bytes", Desk.ledger(x, times("a>b", 15, ";") + "~", 0), -4040);
        due("61 bytes", Desk.ledger(x, times("a>b", 15, ";") + "~~", 0), NONE);

        says(21, "in how many ways lost lines can be filled so that all can be gone from JARS as they lie; the least JARS that are at THE QUEEN's"
            + " WELL then over all these ways; the most.");
        ledgers("L3", "a4", "?", 1, 2, 2, "?;?", 1, 0, 0, "?;?;?", 2, 0, 1, "?;b>a", 0, -2, -2, "b>c", 0, -2, -2, "a>b;?;b>c", 1, 0, 0);
        ledgers("L3", "b4", "?", 2, 0, 1, "?;?", 4, 0, 2, "?;b>a", 2, 1, 2);
        ledgers("L3", "a1b1c1", "?", 0, -2, -2, "?;?;?", 0, -2, -2);
        ledgers("L2;a/b", "a40b40", "?", 0, -2, -2);
        ledgers("K12", "a40b40c40d40e40f40g40h40i40j40k40l40", "?;?;?", 132 * 132 * 132, 34, 43);
        DesertJars queen = Desk.at("L3", "b4");
        queen.queen(2);
        due("at THE QUEEN's WELL, the most", Desk.ledger(queen, "b>c;?", 2), 2);
        due("at THE QUEEN's WELL, the least", Desk.ledger(queen, "b>c;?", 1), 1);
        due("none at THE QUEEN's WELL", Desk.ledger(queen, "b>a;b>a", 2), 0);
        rounds(20, 30, 6, 20, Pair::askLedger);
    }

    private static void faultsOfLedgers() {
        says(21, "FAULTS: 1; 4 an 11th LINE, at its first byte (if that can stand there);");
        String text = "a>b;?;b>c";
        for (int i = 1; i <= text.length(); i++) {
            boolean whole = i == 3 || i == 5 || i == 9;
            due("the end behind " + text.substring(0, i), Desk.ledger(Desk.at("L3", "a4"), text.substring(0, i), 0), whole ? 1 : -1000 - i);
        }
        for (int sign : new int[] {0, ' ', 'm', 'A', '~', 255}) {
            for (int i = 0; i < text.length(); i++) {
                ledgerFaults(text.substring(0, i) + (char) sign + text.substring(i + 1), -1000 - i);
            }
        }
        String ten = times("a>b", 10, ";");
        ledgerFaults(ten + ";a", -4040, ten + ";a>b", -4040, ten + ";l", -4040, ten + ";?", -4040, ten + ";m", -1040, ten + ";", -1040,
            ten + ";;", -1040, ten + ";>", -1040);
        due("ten", Desk.ledger(Desk.at("L3", "a40"), ten, 0), 1);

        says(21, "5 a fourth ?, at it (behind 4);");
        due("three", Desk.ledger(Desk.at("L3", "a40"), "?;?;?", 0) > 0, true);
        ledgerFaults("?;?;?;?", -5006, "?;a>b;?;?;a>b;?", -5014, "?;?;?;?;m", -5006, "?;?;?;" + times("a>b", 7, ";") + ";?", -4034,
            "?;?;?;" + times("a>b", 6, ";") + ";?", -5030, "?;?;??", -1005, "?;?;?;a?", -1007,
            "?;?;?;a>?", -1008);

        says(21, "7 no such WELL, at its letter (behind 4);");
        ledgerFaults("d>a", -7000, "a>d", -7002, "l>a", -7000, "d", -7000, "d~", -7000, "m>a", -1000, "a>m", -1002, "a>b;d>a", -7004, ten + ";d>a",
            -4040, times("a>b", 9, ";") + ";d>a", -7036, "d>d", -7000);
        due("without WELLS", Desk.ledger(new DesertJars(), "a>b", 0), -7000);

        says(21, "8 two that are not NEXT to each other, at the second letter.");
        ledgerFaults("a>c", -8002, "c>a", -8002, "a>a", -8002, "a>b;a>c;m", -8006, "a>cx", -8002, "a>d", -7002);
        due("stages that a LINE took", Desk.ledger(Desk.at("L3;a/b", "a40"), "a>b", 0), -8002);
        due("stages that a LINE gave", Desk.ledger(Desk.at("L3;a-c", "a40"), "a>c", 0), 1);
    }

    private static void symmetries() {
        says(22, "SYMMETRIES: in how many ways THE LAND's WELLS can be laid on themselves so that NEXT stays NEXT (the plain one, too); WELLS on which"
            + " a WELL can be laid so (bits).");
        Object[] lands = {"L1", 1, "L2", 2, "L12", 2, "R3", 6, "R12", 24, "S3", 2, "S12", 39916800, "K12", 479001600, "L2;a/b", 2,
            "K12;a/b", 7257600, "L3*L4", 4, "L2*L2*L2", 48, "L6;b-e;b-d", 1, "L4;b/c", 8};
        for (int i = 0; i < lands.length; i += 2) {
            due("of " + lands[i], Desk.at((String) lands[i]).symmetries(100), (Integer) lands[i + 1]);
        }
        Object[] places = {"L3", 0, 0b101, "L3", 1, 0b010, "S4", 0, 0b0001, "S4", 2, 0b1110, "R12", 7, 0b111111111111, "L3*L4", 0, 0b100100001001,
            "L3*L4", 1, 0b011000000110, "L3*L4", 5, 0b000001100000, "L6;b-e;b-d", 4, 0b010000, "L4;b/c", 2, 0b1111};
        for (int i = 0; i < places.length; i += 3) {
            due("of " + places[i + 1] + " in " + places[i], Desk.at((String) places[i]).symmetries((Integer) places[i + 1]),
                (Integer) places[i + 2]);
        }
        rounds(12, 30, 7, 0, Pair::askSymmetries);
    }

    private static void kept() {
        says(24, "KEPT: JARS, ROOM, THE QUEEN, THE DAY, X;");
        DesertJars x = Sentences.lived();
        String before = Sentences.seen(x);
        x.keep();
        Desk.laying(x, "c9");
        x.room(0, 1);
        x.room(5, 2);
        x.queen(0);
        x.days(60);
        x.seed(5);
        due("UNDONE", x.undo(), true);
        Sentences.dueText("all as it was", Sentences.seen(x), before);
        x = Sentences.lived();
        Desk.law(x, "e1(1=1)");
        Desk.feed(x, 1, 2, 3);
        x.undo();
        due("THE LAW is not KEPT", x.count(5), 1);
        due("nor the tape", x.count(6), 20);
    }

    private static void undone() {
        says(25, "UNDONE: as they were KEPT last (WELLS THE LAND does not have now have none; has it none where THE QUEEN was, she is at 0).");
        DesertJars x = Desk.at("L4", "a1b2c3d4");
        x.room(3, 9);
        x.queen(3);
        x.keep();
        Desk.laying(x, "a9");
        x.keep();
        Desk.laying(x, "b9");
        x.undo();
        Sentences.dueText("the last one", Sentences.jars(x), "9 0 0 0");
        Desk.laying(x, "a1b2c3d4");
        x.keep();
        Desk.land(x, "L3");
        x.undo();
        Sentences.dueText("a smaller land", Sentences.jars(x), "1 2 3");
        due("JARS of all", x.count(3), 6);
        due("THE QUEEN at 0", x.count(4), 0);
        Desk.land(x, "K5");
        x.undo();
        Sentences.dueText("a greater land", Sentences.jars(x), "1 2 3 4 0");
        due("THE QUEEN again", x.count(4), 3);
        due("ROOM again", x.wellIs(3, 1), 9);
        due("ROOM of a new one", x.wellIs(4, 1), 40);
        x.queen(4);
        x.keep();
        Desk.land(x, "L4");
        x.queen(2);
        x.undo();
        due("none where she was, at 0", x.count(4), 0);
        x.undo();
        Sentences.dueText("once more", Sentences.jars(x), "1 2 3 4");
        DesertJars early = new DesertJars();
        early.keep();
        Desk.land(early, "L2");
        Desk.laying(early, "a3");
        early.room(1, 7);
        early.queen(1);
        early.days(4);
        early.undo();
        Sentences.dueText("KEPT ahead of any WELLS", Sentences.jars(early), "0 0");
        due("ROOM as at first", early.wellIs(0, 1) == 40 && early.wellIs(1, 1) == 40, true);
        due("THE QUEEN, THE DAY, X as at first", early.count(4) == 0 && early.count(0) == 0 && early.count(7) == 1, true);
    }

    private static void checked() {
        says(26, "CHECK: JARS of WELLS: right, or the first that is not so.");
        DesertJars x = Desk.at("L3", "a7c40");
        Desk.feed(x, 7, 0, 40);
        due("right", x.check(3), NONE);
        Desk.feed(x, 7, 0, 39);
        due("the third", x.check(3), 2);
        Desk.feed(x, 6, 1, 39);
        due("the first", x.check(3), 0);
        Desk.feed(x, 7, 1, 39);
        due("the second", x.check(3), 1);
    }

    private static void memory() {
        says(1, "All memory is the desert's own.");
        DesertJars x = Sentences.lived();
        DesertJars twin = Sentences.lived();
        DesertJars other = Desk.at("K8", "a3b3c3");
        Desk.law(other, "r10(1=1)");
        other.reach(7, 2, true, 0);
        other.landNumber(0);
        other.keep();
        other.days(50);
        other.seed(3);
        Desk.feed(other, 1, 2, 3);
        Sentences.dueText("another object changes nothing", Sentences.seen(x), Sentences.seen(twin));
        due("nor its tape", x.count(6), 0);
        due("nor what is KEPT", x.undo() && twin.undo() && Sentences.seen(x).equals(Sentences.seen(twin)), true);
        due("nor its NUMBERS", Desk.at("L5").landNumber(0), 16);

        says(1, "A call that is refused (NONE, false) changes nothing but the tape, where it is told.");
        Sentences.stays("all that is refused", AskSentences::allRefused, 0, false);

        says(1, "The constants: `NONE = -1`: There is none.");
        due("NONE", DesertJars.NONE, -1);
    }

    /** Calls that are all refused with the tape of some bytes; how many were not. */
    private static int allRefused(DesertJars x) {
        int[] answers = {x.room(6, 1) ? 1 : NONE, x.room(0, 41) ? 1 : NONE, x.queen(6) ? 1 : NONE, x.law(0), x.law(241), x.law(21), x.land(0),
            x.land(61), x.land(21), x.laying(0), x.laying(61), x.laying(21), x.days(0), x.days(101), x.tried(0, 0), x.tried(1, 3), x.tried(1, 16),
            x.wellIs(6, 0), x.wellIs(0, 4), x.steps(6, 0), x.steps(0, 6), x.reach(6, 1, false, 0), x.reach(0, 0, false, 0),
            x.reach(0, 41, true, 1), x.reach(0, 1, true, 2), x.number(6, 100), x.number(0, 6), x.landNumber(2), x.fewest(6), x.paper(6),
            x.joined(6, 1), x.joined(0, 0), x.joined(0, 5), x.joined(0, 2), x.product(0), x.product(61), x.product(21), x.robbers(6),
            x.ledger(0, 0), x.ledger(61, 0), x.ledger(21, 0), x.ledger(3, 3), x.symmetries(6), x.seed(65536) ? 1 : NONE,
            x.seed(-1) ? 1 : NONE, x.check(13) + 1, x.check(-1) + 1, x.count(9)};
        int wrong = 0;
        for (int answer : answers) {
            wrong += answer == NONE ? 0 : 1;
        }
        return wrong;
    }

    static void all() {
        moves();
        firstMoves();
        numbers();
        landNumbers();
        fewestAndAtOnce();
        papers();
        productAndRobbers();
        ledger();
        faultsOfLedgers();
        symmetries();
        kept();
        undone();
        checked();
        memory();
    }
}
