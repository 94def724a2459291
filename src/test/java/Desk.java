import java.nio.charset.StandardCharsets;

/** What the tests share: feeding texts, and counting answers that are not due. */
final class Desk {
    static int asked = 0;
    static int wrong = 0;

    private Desk() {
    }

    static void due(String call, long got, long want) {
        asked++;
        if (got != want) {
            wrong++;
            if (wrong <= 50) {
                System.out.println(call + " answered " + got + ", due is " + want);
            }
        }
    }

    static void due(String call, boolean got, boolean want) {
        due(call, got ? 1 : 0, want ? 1 : 0);
    }

    static void close(String name) {
        System.out.println(name + ": " + asked + " asked, " + wrong + " wrong");
        if (wrong != 0) {
            System.exit(1);
        }
    }

    /** Bytes as ints for whole feeds, filled up with zeros. */
    static int[][] fives(int... bytes) {
        int[][] all = new int[(bytes.length + 19) / 20][5];
        for (int i = 0; i < 20 * all.length; i++) {
            int[] five = all[i / 20];
            int sign = i < bytes.length ? bytes[i] : 0;
            five[i % 20 / 4] = five[i % 20 / 4] << 8 | sign & 255;
        }
        return all;
    }

    /** Feeds bytes behind the tape. */
    static void feed(DesertJars x, int... bytes) {
        for (int[] five : fives(bytes)) {
            x.feed(five[0], five[1], five[2], five[3], five[4]);
        }
    }

    static int[] bytes(String text) {
        byte[] raw = text.getBytes(StandardCharsets.ISO_8859_1);
        int[] signs = new int[raw.length];
        for (int i = 0; i < raw.length; i++) {
            signs[i] = raw[i] & 255;
        }
        return signs;
    }

    static int land(DesertJars x, String text) {
        feed(x, bytes(text));
        return x.land(text.length());
    }

    static int laying(DesertJars x, String text) {
        feed(x, bytes(text));
        return x.laying(text.length());
    }

    static int law(DesertJars x, String text) {
        feed(x, bytes(text));
        return x.law(text.length());
    }

    static int ledger(DesertJars x, String text, int what) {
        feed(x, bytes(text));
        return x.ledger(text.length(), what);
    }

    static int product(DesertJars x, String text) {
        feed(x, bytes(text));
        return x.product(text.length());
    }

    static DesertJars at(String land) {
        DesertJars x = new DesertJars();
        if (land(x, land) < 0) {
            throw new IllegalStateException("no such land: " + land);
        }
        return x;
    }

    static DesertJars at(String land, String laying) {
        DesertJars x = at(land);
        if (laying(x, laying) < 0) {
            throw new IllegalStateException("no such laying: " + laying);
        }
        return x;
    }

    private static void feed(Plain slow, String text) {
        for (int[] five : fives(bytes(text))) {
            slow.feed(five);
        }
    }

    /** The slow model of a desert; no laying is the empty text. */
    static Plain slow(String land, String laying) {
        Plain slow = new Plain();
        feed(slow, land);
        if (slow.land(land.length()) < 0) {
            throw new IllegalStateException("no such land: " + land);
        }
        if (!laying.isEmpty()) {
            feed(slow, laying);
            slow.laying(laying.length());
        }
        return slow;
    }
}
