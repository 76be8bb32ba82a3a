import java.util.ArrayList;
import java.util.List;

/**
 * All that a small program tells, but for what is told of refused calls, in some hundred calls:
 * two looks fit well into the 512 calls of an object.
 */
final class Look {
    private Look() {
    }

    static long[] at(SplitProgram x) {
        List<Long> seen = new ArrayList<>();
        for (int what = 0; what <= 16; what++) {
            if (what < 7 || what > 12) {
                seen.add((long) x.count(what));
            }
        }
        program(x, seen);
        cuts(x, seen);
        for (int what = 0; what <= 8; what++) {
            seen.add((long) x.now(what));
        }
        seen.add((long) x.gap());
        seen.add((long) x.fault());
        seen.add((long) x.least(0));
        seen.add((long) x.least(1));
        int plans = x.count(0) == 0 ? 1 : x.count(0) == 1 ? 4 : 16;
        for (int plan = 0; plan < plans; plan++) {
            seen.add((long) x.floor(plan));
            seen.add((long) x.total(plan));
        }
        return seen.stream().mapToLong(Long::longValue).toArray();
    }

    private static void program(SplitProgram x, List<Long> seen) {
        int sites = x.count(1);
        for (int p = 0; p < x.count(0); p++) {
            for (int what = 0; what < 3 + sites; what++) {
                seen.add((long) x.of(p, what));
            }
        }
        for (int c = 0; c < x.count(2); c++) {
            for (int what = 0; what < 1 + sites; what++) {
                seen.add((long) x.told(c, what));
            }
        }
    }

    private static void cuts(SplitProgram x, List<Long> seen) {
        for (int i = 0; i < x.now(6); i++) {
            for (int what = 0; what < 3 + x.count(0); what++) {
                seen.add((long) x.cut(i, what));
            }
            for (int s = 0; s < x.count(1); s++) {
                seen.add((long) x.cut(i, 7 + s));
            }
            seen.add((long) x.tells(i, 0));
        }
    }

    /** Without how many can be undone: the rest of two looks, where that may differ. */
    static long[] withoutUndone(long[] seen) {
        long[] rest = seen.clone();
        rest[5] = 0;
        return rest;
    }
}
