import java.nio.charset.StandardCharsets;

/** What the tests have in common: answers that are due, and texts put on the tape. */
final class Due {
    private int wrong = 0;
    private String part = "";

    void part(String name) {
        part = name;
    }

    void is(String call, long got, long want) {
        if (got != want) {
            wrong++;
            System.out.println(part + ": " + call + " answered " + got + ", due is " + want);
        }
    }

    /** A call of the face, to be made when the test says. */
    interface Act {
        int on(SplitProgram x);
    }

    /** A call of the face with one number that the test varies. */
    interface ActBy {
        int on(SplitProgram x, int value);
    }

    /** The call is refused by that: the answer, status() and the count all tell it. */
    void refused(String call, SplitProgram x, int by, Act act) {
        int before = x.count(6 - by);
        is(call, act.on(x), by);
        is("status() behind " + call, x.status(), by);
        is("count(" + (6 - by) + ") behind " + call, x.count(6 - by), before + 1);
    }

    /** The call is refused by that, and all that stood stands as it did. */
    void refusedWithoutTrace(String call, SplitProgram x, int by, Act act) {
        long[] before = Look.at(x);
        refused(call, x, by, act);
        same("what stands behind " + call, Look.at(x), before);
    }

    /** The call is refused by that with each of these numbers, and all that stood stands as it did. */
    void eachRefused(String call, SplitProgram x, int by, int[] values, ActBy act) {
        long[] before = Look.at(x);
        for (int value : values) {
            refused(call + " with " + value, x, by, y -> act.on(y, value));
        }
        same("what stands behind " + call, Look.at(x), before);
    }

    /** The call is not refused: its answer, and status() 0. */
    void taken(String call, SplitProgram x, int want, Act act) {
        is(call, act.on(x), want);
        is("status() behind " + call, x.status(), 0);
    }

    void same(String what, long[] got, long[] want) {
        is(what + ": how much", got.length, want.length);
        for (int i = 0; i < Math.min(got.length, want.length); i++) {
            is(what + ": the answer " + i + " of Look", got[i], want[i]);
        }
    }

    void close() {
        System.out.println(wrong == 0 ? "all answers are as due" : wrong + " answers are not as due");
        if (wrong != 0) {
            System.exit(1);
        }
    }

    /** Puts a text on an empty tape; the bytes behind it are cut off. */
    static void put(SplitProgram x, String text) {
        byte[] bytes = text.getBytes(StandardCharsets.ISO_8859_1);
        for (int at = 0; at < bytes.length; at += 20) {
            int[] five = new int[5];
            for (int i = 0; i < 20; i++) {
                int sign = at + i < bytes.length ? bytes[at + i] & 255 : 0;
                five[i / 4] |= sign << 8 * (3 - i % 4);
            }
            x.feed(five[0], five[1], five[2], five[3], five[4]);
        }
        x.end(bytes.length);
    }

    static SplitProgram from(String text) {
        SplitProgram x = new SplitProgram();
        put(x, text);
        if (x.read() < 0) {
            throw new IllegalStateException("can't be read at " + x.fault() + ": " + text);
        }
        return x;
    }
}
