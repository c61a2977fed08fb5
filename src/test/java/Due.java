import java.nio.charset.StandardCharsets;
import java.util.function.IntUnaryOperator;

/** What the tests share: answers that are due, and a text that is fed. */
final class Due {
    /** No thing has such a number, and some would pass for one if they were cut to fewer bits. */
    private static final int[] FAR_OFF = {Integer.MIN_VALUE, Integer.MIN_VALUE + 1, -65536, -256, -100, 100, 256, 257,
        65536, 65537, 1 << 24, 1 << 30, Integer.MAX_VALUE};

    private int asked = 0;
    private int wrong = 0;

    /** One answer of a promise. */
    void is(String call, long got, long due) {
        asked++;
        if (got != due) {
            wrong++;
            System.out.println(call + " answered " + got + ", due is " + due);
        }
    }

    /** The call is BAD with each of these numbers, and with any far off. */
    void bad(String call, IntUnaryOperator of, int... numbers) {
        for (int number : numbers) {
            is(call + " with " + number, of.applyAsInt(number), -1);
        }
        for (int number : FAR_OFF) {
            is(call + " with " + number, of.applyAsInt(number), -1);
        }
    }

    void end(String test) {
        System.out.println(test + ": " + asked + " answers, " + wrong + " wrong");
        if (wrong != 0) {
            System.exit(1);
        }
    }

    static void feed(KiteSummons x, String text) {
        byte[] bytes = text.getBytes(StandardCharsets.ISO_8859_1);
        for (int i = 0; i < bytes.length; i += 8) {
            int n = Math.min(8, bytes.length - i);
            long eight = 0;
            for (int j = n - 1; j >= 0; j--) {
                eight = eight << 8 | bytes[i + j] & 255;
            }
            x.feed(eight, n);
        }
    }

    /** Feeds a text and has it read. */
    static int told(KiteSummons x, String text) {
        feed(x, text);
        return x.rules();
    }

    /** No WIND blows here: a KITE stays where it is (but a judge in even GUSTS). */
    static KiteSummons still() {
        KiteSummons x = new KiteSummons();
        for (int gust = 0; gust < 16; gust++) {
            x.wind(gust, 0);
        }
        return x;
    }

    /** A SHEET of bytes. */
    static void bytes(KiteSummons x, int sheet, int... bytes) {
        x.sheet(sheet, 0, bytes.length);
        for (int i = 0; i < bytes.length; i++) {
            x.write(sheet, i, bytes[i]);
        }
    }

    /** A GUST behind one ACT, by SHEET 3. */
    static int goBy(KiteSummons x, int act) {
        bytes(x, 3, act);
        return x.goAll(3, 0, 1);
    }

    /** A county that most tests begin with: a KITE of each KIND but heavy's judge, by three FARMS. */
    static KiteSummons county() {
        KiteSummons x = new KiteSummons();
        x.farm(0, 0, 19);
        x.farm(1, 0, 36);
        x.farm(2, 0, 63);
        x.kite(1, 17, 8, 0);
        x.kite(2, 33, 9, 1);
        x.kite(4, 8, 5, 2);
        x.kite(5, 27, 6, 0);
        return x;
    }
}
