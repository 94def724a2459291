/**
 * Lands and layings in which a small mistake of a search shows: each was found by making such a mistake on purpose, one
 * that few other lands tell. Answers stand here as they are due, and the slow model must tell the same.
 */
public final class HardOnesTest {
    private HardOnesTest() {
    }

    private static void reach(String land, String laying, int w, int k, boolean both, int moves, int first) {
        String told = "reach(" + w + ", " + k + ", " + both + ") of " + laying + " in " + land;
        DesertJars x = Desk.at(land, laying);
        Plain slow = Desk.slow(land, laying);
        Desk.due(told, x.reach(w, k, both, 0), moves);
        Desk.due(told + ", first MOVE", x.reach(w, k, both, 1), first);
        Desk.due(told + ", by the slow model", slow.reach(w, k, both, 0), moves);
        Desk.due(told + ", first MOVE by the slow model", slow.reach(w, k, both, 1), first);
    }

    private static void symmetries(String land, int howMany, int w, int places) {
        String told = "symmetries of " + land;
        DesertJars x = Desk.at(land);
        Plain slow = Desk.slow(land, "");
        Desk.due(told, x.symmetries(100), howMany);
        Desk.due(told + " for " + w, x.symmetries(w), places);
        Desk.due(told + " by the slow model", slow.symmetries(100), howMany);
        Desk.due(told + " for " + w + " by the slow model", slow.symmetries(w), places);
    }

    private static void number(String land, int w, int number, int layings) {
        String told = "number(" + w + ") of " + land;
        DesertJars x = Desk.at(land);
        Plain slow = Desk.slow(land, "");
        Desk.due(told, x.number(w, 100), number);
        Desk.due(told + ", layings", x.number(w, 101), layings);
        Desk.due(told + " by the slow model", slow.number(w, 100), number);
        Desk.due(told + ", layings by the slow model", slow.number(w, 101), layings);
    }

    private static int move(int from, int other, int to) {
        return 256 * from + 16 * other + to;
    }

    /** Two layings that are taken for one. */
    private static void layingsAlike() {
        reach("R4*L2;d-e;f-c;d/b", "b1c2d3", 7, 1, false, 3, move(2, 2, 5));
        reach("K4*L2;g-b", "b3c2d1e3f3", 7, 3, false, 4, move(1, 1, 7));
        reach("K7;f/b;c/d", "c3g1", 3, 1, false, 2, move(2, 2, 6));
        reach("L2*L4;b/e;h/a", "b2d2f1g1h2", 1, 3, false, 3, move(7, 7, 6));
        reach("R7", "b1c2d1e1g1", 5, 1, false, 3, move(2, 2, 3));
        reach("R6;b-c;c/b", "b2c4", 5, 1, true, 5, move(1, 1, 0));
        reach("R6", "b4c2", 4, 1, true, 5, move(1, 1, 0));
    }

    /** No space for all layings that are met, or for all MOVES. */
    private static void manyLayings() {
        reach("L2*L2*L2;b-h;f-b;b-d", "b2c1d2f2g1h2", 4, 3, true, 7, move(1, 1, 0));
        reach("S8;b/f;e-f", "b2c2d2e3f2", 6, 2, true, 6, move(1, 1, 0));
        reach("K8", "g1h1", 5, 1, true, 1, move(6, 7, 5));
        reach("K8", "h2", 6, 1, true, 1, move(7, 7, 6));
    }

    /** Two WELLS that are laid on one. */
    private static void wellsAlike() {
        symmetries("R7;b-a;a-e;c-a;f/g;f-c;g-f;f/b;e-b;d-g;a-g", 4, 0, 1);
        symmetries("L2*L4;e-h;d-c;a/f;g/b;e-f;a/e;b-d;e-c;b-d;d-f", 4, 3, 8);
        symmetries("K4*L2;h-c;a/b;g/c;c-b;a/e;a-f;g-e", 8, 6, 64);
        symmetries("L2*L2*L2;e/f;f/b;h-b;a-b;d/a;g-b;e-d", 4, 0, 1);
    }

    /** Layings of 16 bits whose highest bits are all set. */
    private static void fullLayings() {
        number("R8;b/a", 4, 23, 1);
        number("R8;b/a", 5, 23, 1);
        number("R8;a/b;b/e;d-e", 4, 23, 1);
    }

    public static void main(String[] args) {
        layingsAlike();
        manyLayings();
        wellsAlike();
        fullLayings();
        Desk.close("HardOnesTest");
    }
}
