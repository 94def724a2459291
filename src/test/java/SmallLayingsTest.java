/** Every laying of a few JARS in many lands: REACH to each WELL and ROBBERS as the slow model tells them. */
public final class SmallLayingsTest {
    private static final String[] LANDS = {"L1", "L2", "L3", "L4", "L5", "R4", "R5", "S4", "S5", "K4", "K5", "L2*L2",
        "L2*R3", "L5;b-d", "R6", "L4;b/c", "S5;b-c", "K5;a/b;c/d", "R5;a-c"};
    /** In lands of 7 and 8 WELLS layings stand for more bits, in which two that share one are noticed. */
    private static final String[] LARGE_LANDS = {"K7;f/b;c/d", "R4*L2;d-e;f-c;d/b", "K4*L2;g-b", "L2*L2*L2;g-c",
        "S8;h/e;c-d", "R7"};

    private int wells;
    private int laid;

    private SmallLayingsTest() {
    }

    /** All rows of so many JARS in all, from this WELL on. */
    private void lay(String land, int[] row, int w, int left) {
        if (w == row.length - 1) {
            row[w] = left;
            ask(land, row);
            return;
        }
        for (int jars = 0; jars <= left; jars++) {
            row[w] = jars;
            lay(land, row, w + 1, left - jars);
        }
    }

    private void ask(String land, int[] row) {
        StringBuilder laying = new StringBuilder();
        for (int w = 0; w < row.length; w++) {
            laying.append((char) ('a' + w)).append(row[w]);
        }
        DesertJars x = Desk.at(land, laying.toString());
        Plain slow = Desk.slow(land, laying.toString());
        laid++;
        for (int w = 0; w < wells; w++) {
            String told = "(" + w + ") of " + laying + " in " + land;
            for (int k = 1; k <= 2; k++) {
                askReach(x, slow, w, k, laid % 2 == 0, told);
            }
            Desk.due("robbers" + told, x.robbers(w), slow.robbers(w));
        }
    }

    private static void askReach(DesertJars x, Plain slow, int w, int k, boolean both, String told) {
        for (int what = 0; what < 2; what++) {
            Desk.due("reach " + k + ", " + both + ", " + what + told, x.reach(w, k, both, what), slow.reach(w, k, both, what));
        }
    }

    private void layAll(String land, int mostJars) {
        wells = Desk.at(land).count(1);
        for (int jars = 0; jars <= mostJars; jars++) {
            lay(land, new int[wells], 0, jars);
        }
    }

    public static void main(String[] args) {
        SmallLayingsTest test = new SmallLayingsTest();
        for (String land : LANDS) {
            test.layAll(land, 5);
        }
        for (String land : LARGE_LANDS) {
            test.layAll(land, 4);
        }
        Desk.close("SmallLayingsTest");
    }
}
