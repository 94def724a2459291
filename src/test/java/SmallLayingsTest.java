/** Every laying of a few JARS in many lands: REACH to each WELL and ROBBERS as the slow model tells them. */
public final class SmallLayingsTest {
    private static final String[] LANDS = {"L1", "L2", "L3", "L4", "L5", "R4", "R5", "S4", "S5", "K4", "K5", "L2*L2",
        "L2*R3", "L5;b-d", "R6", "L4;b/c", "S5;b-c", "K5;a/b;c/d", "R5;a-c"};
    /** In lands of 7 and 8 WELLS layings stand for more bits, in which two that share one are noticed. */
    private static final String[] LARGE_LANDS = {"K7;f/b;c/d", "R4*L2;d-e;f-c;d/b", "K4*L2;g-b", "L2*L2*L2;g-c",
        "S8;h/e;c-d", "R7"};

    private int wells;
    private int laid;

    private SmallLayingsTest() {
    }

    /** All rows of so many JARS in all, from this WELL on. */
    private void lay(String land, int[] row, int w, int left) {
        if (w == row.length - 1) {
            row[w] = left;
            ask(land, row);
            return;
        }
        for (int jars = 0; jars <= left; jars++) {
            row[w] = jars;
            lay(land, row, w + 1, left - jars);
        }
    }

    private void ask(String land, int[] row) {
        StringBuilder laying = new StringBuilder();
        for (int w = 0; w < row.length; w++) {
            laying.append((char) ('a' + w)).append(row[w]);
        }
        DesertJars x = Desk.at(land, laying.toString());
        Plain slow = new Plain();
        feed(slow, land);
        slow.land(land.length());
        feed(slow, laying.toString());
        slow.laying(laying.length());
        laid++;
        for (int w = 0; w < wells; w++) {
            String told = "(" + w + ") of " + laying + " in " + land;
            for (int k = 1; k <= 2; k++) {
                askReach(x, slow, w, k, laid % 2 == 0, told);
            }
            Desk.due("robbers" + told, x.robbers(w), slow.robbers(w));
        }
    }

    private static void askReach(DesertJars x, Plain slow, int w, int k, boolean both, String told) {
        for (int what = 0; what < 2; what++) {
            Desk.due("reach " + k + ", " + both + ", " + what + told, x.reach(w, k, both, what), slow.reach(w, k, both, what));
        }
    }

    private static void feed(Plain slow, String text) {
        for (int[] five : Desk.fives(Desk.bytes(text))) {
            slow.feed(five);
        }
    }

    private void layAll(String land, int mostJars) {
        wells = Desk.at(land).count(1);
        for (int jars = 0; jars <= mostJars; jars++) {
            lay(land, new int[wells], 0, jars);
        }
    }

    /** Layings in which a way is lost if two that the search meets are taken for one. */
    private static void hardOnes() {
        Desk.due("R4*L2", Desk.at("R4*L2;d-e;f-c;d/b", "b1c2d3").reach(7, 1, false, 0), 3);
        Desk.due("K4*L2", Desk.at("K4*L2;g-b", "b3c2d1e3f3").reach(7, 3, false, 1), 279);
        Desk.due("K7", Desk.at("K7;f/b;c/d", "c3g1").reach(3, 1, false, 0), 2);
        Desk.due("L2*L4", Desk.at("L2*L4;b/e;h/a", "b2d2f1g1h2").reach(1, 3, false, 0), 3);
        Desk.due("R7", Desk.at("R7", "b1c2d1e1g1").reach(5, 1, false, 0), 3);
        Desk.due("R6", Desk.at("R6;b-c;c/b", "b2c4").reach(5, 1, true, 0), 5);
        Desk.due("R6, the first MOVE", Desk.at("R6", "b4c2").reach(4, 1, true, 1), 272);
    }

    public static void main(String[] args) {
        SmallLayingsTest test = new SmallLayingsTest();
        for (String land : LANDS) {
            test.layAll(land, 5);
        }
        for (String land : LARGE_LANDS) {
            test.layAll(land, 4);
        }
        hardOnes();
        Desk.close("SmallLayingsTest");
    }
}
