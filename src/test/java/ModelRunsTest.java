import java.nio.charset.StandardCharsets;
import java.util.Arrays;
import java.util.Random;

/** Random runs of calls, all promises, each answer held against the Model's. The seeds are fixed. */
public final class ModelRunsTest {
    private static final int RUNS = Integer.getInteger("runs", 220);
    private static final int CALLS = 300;
    private static int wrong = 0;

    private final Random random;
    private final SplitProgram x = new SplitProgram();
    private final Model m = new Model();
    private final StringBuilder log = new StringBuilder();
    private final boolean wild;
    private final boolean rich;

    private ModelRunsTest(long seed) {
        random = new Random(seed);
        wild = seed % 4 == 0;
        rich = seed % 4 >= 2;
    }

    public static void main(String[] args) {
        long first = Long.getLong("seed", 1);
        for (long seed = first; seed < first + RUNS && wrong < 5; seed++) {
            new ModelRunsTest(seed).run(seed);
        }
        System.out.println(wrong == 0 ? "all answers are the model's" : wrong + " answers are not the model's");
        if (wrong != 0) {
            System.exit(1);
        }
    }

    private boolean same(String call, long got, long want) {
        log.append(call).append(" -> ").append(want).append('\n');
        if (got == want) {
            return true;
        }
        wrong++;
        System.out.println(log + "answered " + got + ", the model's is " + want);
        return false;
    }

    private int upTo(int n) {
        return random.nextInt(n + 1);
    }

    /** Mostly within the range, sometimes just beyond, seldom anything. */
    private int about(int low, int high) {
        int dice = random.nextInt(wild ? 12 : 60);
        if (dice == 0) {
            return low - 1;
        }
        if (dice == 1) {
            return high + 1;
        }
        if (dice == 2) {
            int[] far = {Integer.MIN_VALUE, Integer.MAX_VALUE, -2, 1000, 1 << 30, -(1 << 30), 255, 256, random.nextInt()};
            return far[random.nextInt(far.length)];
        }
        return low + random.nextInt(high - low + 1);
    }

    private void run(long seed) {
        log.append("seed ").append(seed).append('\n');
        if (!start()) {
            return;
        }
        for (int i = 0; i < CALLS; i++) {
            if (!act() || !ask() || !ask()) {
                return;
            }
            if (i % 10 == 0 && !askAll()) {
                return;
            }
        }
        askAll();
    }

    private boolean start() {
        boolean fine = true;
        int plants = rich ? 3 + upTo(1) : 1 + upTo(3);
        int sites = rich ? 3 + upTo(3) : 1 + upTo(5);
        int scenes = rich ? 2 + upTo(2) : random.nextInt(8) == 0 ? 0 : 1 + upTo(3);
        int density = rich ? 60 + upTo(40) : 30 + upTo(70);
        int dear = random.nextBoolean() ? 99 : 1 + upTo(8);
        for (int p = 0; p < plants && fine; p++) {
            fine = plant(upTo(random.nextBoolean() ? 999 : 60), rich ? 8 + upTo(12) : 1 + upTo(19), rich ? 2 + upTo(1) : upTo(3));
        }
        for (int s = 0; s < sites && fine; s++) {
            fine = same("site()", x.site(), m.site());
        }
        for (int p = 0; p < plants; p++) {
            for (int s = 0; s < sites && fine; s++) {
                if (random.nextInt(100) < density) {
                    fine = road(p, s, upTo(dear));
                }
            }
        }
        int hunger = rich ? 2 + upTo(10) : 2 + upTo(18);
        if (rich) {
            int keep = upTo(3);
            fine = fine && same("terms(1, " + keep + ")", x.terms(1, keep), m.terms(1, keep));
        }
        for (int c = 0; c < scenes && fine; c++) {
            fine = scene(1 + upTo(8));
            for (int s = 0; s < sites && fine; s++) {
                fine = need(c, s, upTo(hunger));
            }
        }
        return fine;
    }

    private boolean plant(int fee, int size, int most) {
        return same("plant(" + fee + ", " + size + ", " + most + ")", x.plant(fee, size, most), m.plant(fee, size, most));
    }

    private boolean road(int p, int s, int toll) {
        return same("road(" + p + ", " + s + ", " + toll + ")", x.road(p, s, toll), m.road(p, s, toll));
    }

    private boolean scene(int weight) {
        return same("scene(" + weight + ")", x.scene(weight), m.scene(weight));
    }

    private boolean need(int c, int s, int value) {
        return same("need(" + c + ", " + s + ", " + value + ")", x.need(c, s, value), m.need(c, s, value));
    }

    private boolean act() {
        boolean over = m.now(0) != 0;
        int kind = random.nextInt(26);
        if (over && kind >= 11 && kind <= 20 && random.nextInt(4) != 0) {
            kind = new int[] {4, 7, 9, 21}[random.nextInt(4)];
        }
        switch (kind) {
            case 0: {
                int what = about(0, 3);
                int value = about(what == 3 ? 4 : 0, what == 0 ? 1 : what == 1 ? 9 : what == 2 ? (random.nextBoolean() ? 1000 : 60) : 40);
                return same("terms(" + what + ", " + value + ")", x.terms(what, value), m.terms(what, value));
            }
            case 1: return random.nextInt(rich ? 12 : 3) != 0 || text();
            case 2: return random.nextInt(4) != 0 || plant(about(0, 999), about(1, 20), about(0, 3));
            case 3: return random.nextInt(4) != 0 || same("site()", x.site(), m.site());
            case 4: case 5: return road(about(0, 3), about(0, 5), random.nextInt(4) == 0 ? -1 : about(0, random.nextBoolean() ? 99 : 9));
            case 6: return random.nextInt(4) != 0 || scene(about(1, 9));
            case 7: case 8: return need(about(0, 3), about(0, 5), about(0, 20));
            case 9: case 10: {
                int p = about(0, 3);
                int what = about(0, 2);
                int value = about(what == 1 ? 1 : 0, what == 0 ? 99 : what == 1 ? 20 : 3);
                return same("change(" + p + ", " + what + ", " + value + ")", x.change(p, what, value), m.change(p, what, value));
            }
            case 11: case 12: case 13: case 14: case 15: case 16: return same("round()", x.round(), m.round());
            case 17: case 18: case 19: case 20: {
                int n = random.nextBoolean() ? about(1, 99) : 1 + upTo(5);
                return same("go(" + n + ")", x.go(n), m.go(n));
            }
            case 21: return !over && random.nextInt(3) != 0 || same("clear()", x.clear(), m.clear());
            case 22: case 23: {
                boolean fine = true;
                for (int n = upTo(random.nextInt(8) == 0 ? 13 : 2); n >= 0 && fine; n--) {
                    fine = same("undo()", x.undo(), m.undo());
                }
                return fine;
            }
            case 24: {
                int k = about(0, 1);
                return same("image(" + k + ")", x.image(k), m.image(k));
            }
            default: {
                int k = about(0, 1);
                return same("back(" + k + ")", x.back(k), m.back(k));
            }
        }
    }

    private boolean text() {
        byte[] bytes = someText();
        boolean fine = true;
        for (int at = 0; at < bytes.length && fine; at += 20) {
            int[] five = new int[5];
            for (int i = 0; i < 20; i++) {
                int b = at + i < bytes.length ? bytes[at + i] & 255 : random.nextInt(256);
                five[i / 4] |= b << 8 * (3 - i % 4);
            }
            fine = same("feed(" + Arrays.toString(five) + ")", x.feed(five[0], five[1], five[2], five[3], five[4]), m.feed(five));
        }
        int n = random.nextInt(10) == 0 ? about(0, 400) : Math.min(400, bytes.length);
        fine = fine && same("end(" + n + ")", x.end(n), m.end(n));
        return fine && same("read() of " + new String(bytes, StandardCharsets.ISO_8859_1), x.read(), m.read())
            && same("fault()", x.fault(), m.fault());
    }

    private byte[] someText() {
        StringBuilder b = new StringBuilder();
        int lines = upTo(34);
        int plants = 0;
        int sites = 0;
        int scenes = 0;
        boolean[] told = new boolean[100];
        for (int i = 0; i < lines; i++) {
            b.append(i == 0 ? "" : random.nextInt(40) == 0 ? " ;  " : ";");
            int kind = random.nextInt(10);
            if (kind < 2 && (plants < 4 || random.nextInt(20) == 0)) {
                b.append("plant ").append(upTo(99)).append(' ').append(1 + upTo(19)).append(' ').append(upTo(3));
                plants++;
            } else if (kind < 4 && (sites < 6 || random.nextInt(20) == 0)) {
                b.append("site");
                sites++;
            } else if (kind < 9 && plants > 0 && sites > 0) {
                int p = upTo(plants - 1);
                int s = upTo(sites - 1);
                for (int tries = 0; tries < 40 && told[10 * p + s]; tries++) {
                    p = upTo(plants - 1);
                    s = upTo(sites - 1);
                }
                told[10 * p + s] = true;
                b.append("road ").append(p).append(random.nextInt(9) == 0 ? " 00" : "  ").append(s).append(' ').append(upTo(99));
            } else if (scenes >= 4 && random.nextInt(20) != 0) {
                b.setLength(Math.max(0, b.lastIndexOf(";")));
                break;
            } else {
                scenes++;
                b.append("case").append(random.nextBoolean() ? " " : "").append(1 + upTo(8));
                for (int s = upTo(sites); s > 0; s--) {
                    b.append(' ').append(upTo(20));
                }
            }
        }
        for (int n = random.nextInt(3) - 1; n > 0 && b.length() > 0; n--) {
            String odd = "09;; az-AZ\n" + (char) 0 + (char) 233 + (char) 160 + "{`:/";
            b.setCharAt(random.nextInt(b.length()), odd.charAt(random.nextInt(odd.length())));
        }
        return b.toString().getBytes(StandardCharsets.ISO_8859_1);
    }

    private int somePlan() {
        if (random.nextInt(6) == 0) {
            return about(0, 255);
        }
        int plan = 0;
        for (int p = 0; p < m.world().plants.size(); p++) {
            plan += upTo(m.world().plants.get(p)[2]) << 2 * p;
        }
        return plan;
    }

    private boolean ask() {
        int plan = somePlan();
        int c = about(0, 3);
        int i = about(0, Math.max(0, m.now(6) - 1));
        switch (random.nextInt(17)) {
            case 0: {
                int p = about(0, 3);
                int what = about(0, 8);
                return same("of(" + p + ", " + what + ")", x.of(p, what), m.of(p, what));
            }
            case 1: {
                int what = about(0, 6);
                return same("told(" + c + ", " + what + ")", x.told(c, what), m.told(c, what));
            }
            case 2: return same("gap()", x.gap(), m.gap());
            case 3: {
                int what = about(0, 12);
                return same("cut(" + i + ", " + what + ")", x.cut(i, what), m.cut(i, what));
            }
            case 4: return same("tells(" + i + ", " + plan + ")", x.tells(i, plan), m.tells(i, plan));
            case 5: return random.nextInt(4) != 0 || same("exact(" + i + ")", x.exact(i), m.exact(i));
            case 6: return same("price(" + c + ", " + plan + ")", x.price(c, plan), m.price(c, plan));
            case 7: return same("lack(" + c + ", " + plan + ")", x.lack(c, plan), m.lack(c, plan));
            case 8: case 9: {
                int what = about(0, 9);
                return same("rate(" + c + ", " + plan + ", " + what + ")", x.rate(c, plan, what), m.rate(c, plan, what));
            }
            case 10: return same("floor(" + plan + ")", x.floor(plan), m.floor(plan));
            case 11: return same("total(" + plan + ")", x.total(plan), m.total(plan));
            case 12: {
                int what = about(0, 1);
                return random.nextInt(10) != 0 || same("least(" + what + ")", x.least(what), m.least(what));
            }
            case 13: return random.nextInt(6) != 0 || same("regret(" + plan + ")", x.regret(plan), m.regret(plan));
            case 14: return same("mean(" + plan + ")", x.mean(plan), m.mean(plan));
            case 15: {
                int way = about(0, 1);
                int keep = about(0, 9);
                return random.nextInt(12) != 0 || same("would(" + way + ", " + keep + ")", x.would(way, keep), m.would(way, keep));
            }
            default: return same("status()", x.status(), m.status());
        }
    }

    /** All that stands, without what is dear to find. */
    private boolean askAll() {
        boolean fine = same("status()", x.status(), m.status()) && same("fault()", x.fault(), m.fault());
        fine = fine && same("gap()", x.gap(), m.gap());
        for (int what = -1; what < 10 && fine; what++) {
            fine = same("now(" + what + ")", x.now(what), m.now(what));
        }
        for (int what = -1; what < 18 && fine; what++) {
            fine = same("count(" + what + ")", x.count(what), m.count(what));
        }
        for (int p = 0; p < 5 && fine; p++) {
            for (int what = -1; what < 10 && fine; what++) {
                fine = same("of(" + p + ", " + what + ")", x.of(p, what), m.of(p, what))
                    && same("told(" + p + ", " + what + ")", x.told(p, what), m.told(p, what));
            }
        }
        for (int i = 0; i <= m.now(6) && fine; i++) {
            for (int what = -1; what < 14 && fine; what++) {
                fine = same("cut(" + i + ", " + what + ")", x.cut(i, what), m.cut(i, what));
            }
        }
        for (int n = 0; n < 6 && fine; n++) {
            int plan = somePlan();
            fine = same("floor(" + plan + ")", x.floor(plan), m.floor(plan));
        }
        return fine;
    }
}
