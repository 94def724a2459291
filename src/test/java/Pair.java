import java.util.Random;

/** A desert and the slow model of it, told the same: what is asked of one after many others must still be right. */
final class Pair {
    final DesertJars x = new DesertJars();
    final Plain slow = new Plain();
    private final Random random;

    Pair(long seed) {
        random = new Random(seed);
    }

    private void feed(String text) {
        for (int[] five : Desk.fives(Desk.bytes(text))) {
            x.feed(five[0], five[1], five[2], five[3], five[4]);
            slow.feed(five);
        }
    }

    int wells() {
        return slow.next.length;
    }

    /** Another LAND of 2 to so many WELLS, with LINES. */
    String newLand(int most) {
        int wells = 2 + random.nextInt(most - 1);
        String[] shapes = {"L" + wells, "K" + wells, "S" + wells, wells > 2 ? "R" + wells : "L2"};
        StringBuilder text = new StringBuilder(shapes[random.nextInt(4)]);
        int lines = random.nextInt(wells == 2 ? 2 : 5);
        for (int i = 0; i < lines; i++) {
            int p = random.nextInt(wells);
            int q = (p + 1 + random.nextInt(wells - 1)) % wells;
            text.append(';').append(Sentences.letter(p)).append(random.nextBoolean() ? '-' : '/').append(Sentences.letter(q));
        }
        feed(text.toString());
        Sentences.due("land " + text, x.land(text.length()), slow.land(text.length()));
        return text.toString();
    }

    /** Another LAYING of so many JARS in all, and another WELL for THE QUEEN. */
    String newLaying(int sum) {
        int[] jars = new int[wells()];
        for (int i = 0; i < sum; i++) {
            jars[random.nextInt(random.nextBoolean() ? Math.min(3, wells()) : wells())]++;
        }
        StringBuilder text = new StringBuilder();
        for (int w = 0; w < jars.length; w++) {
            text.append(Sentences.letter(w)).append(jars[w]);
        }
        feed(text.toString());
        Sentences.due("laying " + text, x.laying(text.length()), slow.laying(text.length()));
        int queen = random.nextInt(wells());
        Sentences.due("queen " + queen, x.queen(queen), slow.queen(queen));
        return text + " and THE QUEEN at " + queen;
    }

    /** A LEDGER of stages of THE LAND with up to 3 lines lost, and what is told of it. */
    void askLedger(String told) {
        StringBuilder text = new StringBuilder();
        int lines = 1 + random.nextInt(6);
        int lost = 0;
        for (int i = 0; i < lines; i++) {
            int p = random.nextInt(wells());
            int q = random.nextInt(wells());
            boolean stage = slow.next[p][q];
            text.append(i > 0 ? ";" : "");
            if (stage || lost == 3) {
                text.append(Sentences.letter(p)).append('>').append(Sentences.letter(q));
            } else {
                text.append('?');
                lost++;
            }
        }
        for (int what = 0; what < 3; what++) {
            feed(text.toString());
            Sentences.due("ledger " + text + ", " + what + " of " + told, x.ledger(text.length(), what), slow.ledger(text.length(), what));
        }
    }

    void askReach(boolean both, String told) {
        for (int w = 0; w < wells(); w++) {
            for (int k = 1; k <= 2; k++) {
                String call = "reach(" + w + ", " + k + ", " + both + ") in " + told;
                Sentences.due(call, x.reach(w, k, both, 0), slow.reach(w, k, both, 0));
                Sentences.due(call + ", first MOVE", x.reach(w, k, both, 1), slow.reach(w, k, both, 1));
            }
        }
    }

    void askNumbers(String told) {
        for (int w = 0; w < wells(); w++) {
            for (int what = 0; what < wells(); what++) {
                Sentences.due("number(" + w + ", " + what + ") of " + told, x.number(w, what), slow.number(w, what));
            }
            Sentences.due("number(" + w + ", 100) of " + told, x.number(w, 100), slow.number(w, 100));
            Sentences.due("number(" + w + ", 101) of " + told, x.number(w, 101), slow.number(w, 101));
        }
    }

    void askLandNumber(String told) {
        for (int what = 0; what < 2; what++) {
            Sentences.due("landNumber(" + what + ") of " + told, x.landNumber(what), slow.landNumber(what));
        }
    }

    void askFewest(String told) {
        for (int what = 0; what < wells(); what++) {
            Sentences.due("fewest(" + what + ") of " + told, x.fewest(what), slow.fewest(what));
        }
        Sentences.due("fewest(100) of " + told, x.fewest(100), slow.fewest(100));
        Sentences.due("fewest(101) of " + told, x.fewest(101), slow.fewest(101));
    }

    void askSymmetries(String told) {
        for (int what = 0; what < wells(); what++) {
            Sentences.due("symmetries(" + what + ") of " + told, x.symmetries(what), slow.symmetries(what));
        }
        Sentences.due("symmetries(100) of " + told, x.symmetries(100), slow.symmetries(100));
    }

    void askRobbers(String told) {
        for (int w = 0; w < wells(); w++) {
            Sentences.due("robbers(" + w + ") of " + told, x.robbers(w), slow.robbers(w));
        }
    }

    void askAtOnce(String told) {
        Sentences.due("atOnce() of " + told, x.atOnce(), slow.atOnce());
    }
}
