import java.nio.charset.StandardCharsets;
import java.util.Arrays;

/** What all tests use: expectations that are counted, and texts that are fed. */
final class Check {
    private static int asked;
    private static int wrong;

    private Check() {
    }

    static void same(String what, long due, long got) {
        asked++;
        if (due != got) {
            wrong++;
            System.out.println(what + " answered " + got + ", due is " + due);
        }
    }

    static void same(String what, String due, String got) {
        asked++;
        if (!due.equals(got)) {
            wrong++;
            System.out.println(what + " answered " + got + ", due is " + due);
        }
    }

    static void fails(String what, Class<? extends RuntimeException> due, Runnable call) {
        asked++;
        String got = "nothing";
        try {
            call.run();
        } catch (RuntimeException e) {
            got = e.getClass().getSimpleName();
        }
        if (!got.equals(due.getSimpleName())) {
            wrong++;
            System.out.println(what + " threw " + got + ", due is " + due.getSimpleName());
        }
    }

    /** How many bytes the text has; it is filled up with zeros to the next twenty. */
    static int feed(BowingRow x, String text) {
        byte[] bytes = text.getBytes(StandardCharsets.ISO_8859_1);
        byte[] full = Arrays.copyOf(bytes, (bytes.length + 19) / 20 * 20);
        for (int i = 0; i < full.length; i += 20) {
            x.feed(number(full, i), number(full, i + 4), number(full, i + 8), number(full, i + 12),
                number(full, i + 16));
        }
        return bytes.length;
    }

    private static int number(byte[] bytes, int at) {
        return bytes[at] << 24 | (bytes[at + 1] & 255) << 16 | (bytes[at + 2] & 255) << 8 | bytes[at + 3] & 255;
    }

    static int row(BowingRow x, String text) {
        return x.row(feed(x, text));
    }

    static int law(BowingRow x, String text) {
        return x.law(feed(x, text));
    }

    /** A new object with both texts, which must be good ones. */
    static BowingRow with(String row, String law) {
        BowingRow x = new BowingRow();
        if (row(x, row) < 0 || law(x, law) < 0) {
            same("a good text: " + row + " | " + law, 0, -1);
        }
        return x;
    }

    static void end() {
        System.out.println(asked + " asked, " + wrong + " wrong");
        if (wrong != 0 || asked == 0) {
            System.exit(1);
        }
    }
}
