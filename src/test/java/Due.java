import java.nio.charset.StandardCharsets;

/** What the tests have in common: answers that are due, and texts put on the tape. */
final class Due {
    private int wrong = 0;
    private String part = "";

    void part(String name) {
        part = name;
    }

    void is(String call, long got, long want) {
        if (got != want) {
            wrong++;
            System.out.println(part + ": " + call + " answered " + got + ", due is " + want);
        }
    }

    void close() {
        System.out.println(wrong == 0 ? "all answers are as due" : wrong + " answers are not as due");
        if (wrong != 0) {
            System.exit(1);
        }
    }

    /** Puts a text on an empty tape; the bytes behind it are cut off. */
    static void put(SplitProgram x, String text) {
        byte[] bytes = text.getBytes(StandardCharsets.ISO_8859_1);
        for (int at = 0; at < bytes.length; at += 20) {
            int[] five = new int[5];
            for (int i = 0; i < 20; i++) {
                int sign = at + i < bytes.length ? bytes[at + i] & 255 : 0;
                five[i / 4] |= sign << 8 * (3 - i % 4);
            }
            x.feed(five[0], five[1], five[2], five[3], five[4]);
        }
        x.end(bytes.length);
    }

    static SplitProgram from(String text) {
        SplitProgram x = new SplitProgram();
        put(x, text);
        if (x.read() < 0) {
            throw new IllegalStateException("can't be read at " + x.fault() + ": " + text);
        }
        return x;
    }
}
