import java.nio.charset.StandardCharsets;

/** What the tests share: answers that are due, and a text that is fed. */
final class Due {
    private int asked = 0;
    private int wrong = 0;

    /** One answer of a promise. */
    void is(String call, long got, long due) {
        asked++;
        if (got != due) {
            wrong++;
            System.out.println(call + " answered " + got + ", due is " + due);
        }
    }

    void end(String test) {
        System.out.println(test + ": " + asked + " answers, " + wrong + " wrong");
        if (wrong != 0) {
            System.exit(1);
        }
    }

    static void feed(KiteSummons x, String text) {
        byte[] bytes = text.getBytes(StandardCharsets.ISO_8859_1);
        for (int i = 0; i < bytes.length; i += 8) {
            int n = Math.min(8, bytes.length - i);
            long eight = 0;
            for (int j = n - 1; j >= 0; j--) {
                eight = eight << 8 | bytes[i + j] & 255;
            }
            x.feed(eight, n);
        }
    }

    /** Feeds a text and has it read. */
    static int told(KiteSummons x, String text) {
        feed(x, text);
        return x.rules();
    }

    /** A county that most tests begin with: a KITE of each KIND but heavy's judge, by three FARMS. */
    static KiteSummons county() {
        KiteSummons x = new KiteSummons();
        x.farm(0, 0, 19);
        x.farm(1, 0, 36);
        x.farm(2, 0, 63);
        x.kite(1, 17, 8, 0);
        x.kite(2, 33, 9, 1);
        x.kite(4, 8, 5, 2);
        x.kite(5, 27, 6, 0);
        return x;
    }
}
