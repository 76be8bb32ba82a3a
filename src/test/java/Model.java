import java.nio.charset.StandardCharsets;
import java.util.ArrayDeque;
import java.util.ArrayList;
import java.util.Arrays;
import java.util.Deque;
import java.util.HashMap;
import java.util.List;
import java.util.Map;
import java.util.regex.Matcher;
import java.util.regex.Pattern;

/**
 * The document again, written as plainly as can be and with other ways than SplitProgram's:
 * whole copies for undo, all 64 sets of sites, units brought one by one, rates by differences
 * of prices. ModelRunsTest holds the two against each other.
 */
final class Model {
    static final int NONE = -1;

    static final class Cut {
        int scene;
        boolean ray;
        int age;
        int[] u = new int[4];
        int[] v = new int[6];

        Cut copy() {
            Cut c = new Cut();
            c.scene = scene;
            c.ray = ray;
            c.age = age;
            c.u = u.clone();
            c.v = v.clone();
            return c;
        }
    }

    static final class World {
        List<int[]> plants = new ArrayList<>();
        int sites;
        int[][] tolls = new int[4][6];
        List<int[]> scenes = new ArrayList<>();
        List<Cut> cuts = new ArrayList<>();
        int over;
        Integer lower;
        Integer upper;
        Integer best;
        Integer master;
        int rounds;
        int gone;

        World() {
            for (int[] row : tolls) {
                Arrays.fill(row, NONE);
            }
        }

        World copy() {
            World w = new World();
            plants.forEach(p -> w.plants.add(p.clone()));
            w.sites = sites;
            for (int p = 0; p < 4; p++) {
                w.tolls[p] = tolls[p].clone();
            }
            scenes.forEach(s -> w.scenes.add(s.clone()));
            cuts.forEach(c -> w.cuts.add(c.copy()));
            w.over = over;
            w.lower = lower;
            w.upper = upper;
            w.best = best;
            w.master = master;
            w.rounds = rounds;
            w.gone = gone;
            return w;
        }

        boolean isPlan(int plan) {
            if (plan < 0 || plan > 255) {
                return false;
            }
            for (int p = 0; p < 4; p++) {
                int units = plan / (int) Math.pow(4, p) % 4;
                int most = p < plants.size() ? plants.get(p)[2] : 0;
                if (units > most) {
                    return false;
                }
            }
            return true;
        }

        List<Integer> plans() {
            List<Integer> all = new ArrayList<>();
            for (int plan = 0; plan < 256; plan++) {
                if (isPlan(plan)) {
                    all.add(plan);
                }
            }
            return all;
        }

        int units(int plan, int p) {
            return plan / (int) Math.pow(4, p) % 4;
        }

        int fees(int plan) {
            int sum = 0;
            for (int p = 0; p < plants.size(); p++) {
                sum += units(plan, p) * plants.get(p)[0];
            }
            return sum;
        }

        int[] stocks(int plan) {
            int[] st = new int[plants.size()];
            for (int p = 0; p < st.length; p++) {
                st[p] = units(plan, p) * plants.get(p)[1];
            }
            return st;
        }

        int needOf(int c, int s) {
            return scenes.get(c)[1 + s];
        }

        int setLack(int c, int[] stocks, int set) {
            int value = 0;
            for (int s = 0; s < sites; s++) {
                value += (set >> s & 1) * needOf(c, s);
            }
            for (int p = 0; p < plants.size(); p++) {
                boolean near = false;
                for (int s = 0; s < sites; s++) {
                    near |= (set >> s & 1) == 1 && tolls[p][s] != NONE;
                }
                value -= near ? stocks[p] : 0;
            }
            return value;
        }

        int lack(int c, int plan) {
            int worst = 0;
            for (int set = 0; set < 1 << sites; set++) {
                worst = Math.max(worst, setLack(c, stocks(plan), set));
            }
            return worst;
        }

        /** Unit by unit along shortest ways from a source to a sink; -1 if not all can be brought. */
        int priceBy(int c, int[] stocks) {
            int n = plants.size();
            int source = n + sites;
            int sink = source + 1;
            int[][] cap = new int[sink + 1][sink + 1];
            int[][] cost = new int[sink + 1][sink + 1];
            int want = 0;
            for (int p = 0; p < n; p++) {
                cap[source][p] = stocks[p];
                for (int s = 0; s < sites; s++) {
                    if (tolls[p][s] != NONE) {
                        cap[p][n + s] = 1000;
                        cost[p][n + s] = tolls[p][s];
                        cost[n + s][p] = -tolls[p][s];
                    }
                }
            }
            for (int s = 0; s < sites; s++) {
                cap[n + s][sink] = needOf(c, s);
                want += needOf(c, s);
            }
            int sum = 0;
            for (int k = 0; k < want; k++) {
                int[] dist = new int[sink + 1];
                int[] from = new int[sink + 1];
                Arrays.fill(dist, 1 << 20);
                dist[source] = 0;
                boolean moved = true;
                while (moved) {
                    moved = false;
                    for (int a = 0; a <= sink; a++) {
                        for (int b = 0; b <= sink; b++) {
                            if (dist[a] < 1 << 20 && cap[a][b] > 0 && dist[a] + cost[a][b] < dist[b]) {
                                dist[b] = dist[a] + cost[a][b];
                                from[b] = a;
                                moved = true;
                            }
                        }
                    }
                }
                if (dist[sink] >= 1 << 20) {
                    return NONE;
                }
                sum += dist[sink];
                for (int b = sink; b != source; b = from[b]) {
                    cap[from[b]][b]--;
                    cap[b][from[b]]++;
                }
            }
            return sum;
        }

        final Map<String, Integer> memo = new HashMap<>();

        String programText() {
            StringBuilder b = new StringBuilder();
            plants.forEach(p -> b.append(p[1]).append(','));
            b.append(sites).append(Arrays.deepToString(tolls));
            scenes.forEach(s -> b.append(Arrays.toString(s)));
            return b.toString();
        }

        String memoProgram = "";

        int price(int c, int plan) {
            String text = programText();
            if (!text.equals(memoProgram)) {
                memo.clear();
                memoProgram = text;
            }
            return memo.computeIfAbsent(c + "/" + plan, k -> priceBy(c, stocks(plan)));
        }

        boolean fails(int c, int plan) {
            return lack(c, plan) > 0;
        }

        Cut cutOf(int c, int plan) {
            Cut cut = new Cut();
            cut.scene = c;
            cut.ray = fails(c, plan);
            int[] st = stocks(plan);
            if (cut.ray) {
                int worst = lack(c, plan);
                int set = (1 << sites) - 1;
                for (int other = 0; other < 1 << sites; other++) {
                    set &= setLack(c, st, other) == worst ? other : -1;
                }
                for (int s = 0; s < sites; s++) {
                    cut.v[s] = set >> s & 1;
                    for (int p = 0; p < plants.size(); p++) {
                        cut.u[p] |= tolls[p][s] != NONE ? cut.v[s] : 0;
                    }
                }
                return cut;
            }
            for (int p = 0; p < plants.size(); p++) {
                int[] more = st.clone();
                more[p]++;
                cut.u[p] = price(c, plan) - priceBy(c, more);
            }
            for (int s = 0; s < sites; s++) {
                int least = Integer.MAX_VALUE;
                for (int p = 0; p < plants.size(); p++) {
                    if (tolls[p][s] != NONE) {
                        least = Math.min(least, cut.u[p] + tolls[p][s]);
                    }
                }
                cut.v[s] = least == Integer.MAX_VALUE ? 0 : least;
            }
            return cut;
        }

        boolean holds(Cut cut) {
            for (int p = 0; p < plants.size(); p++) {
                for (int s = 0; s < sites; s++) {
                    if (tolls[p][s] != NONE && cut.v[s] > cut.u[p] + (cut.ray ? 0 : tolls[p][s])) {
                        return false;
                    }
                }
            }
            return true;
        }

        int tells(Cut cut, int plan) {
            int sum = 0;
            for (int s = 0; s < sites; s++) {
                sum += needOf(cut.scene, s) * cut.v[s];
            }
            int[] st = stocks(plan);
            for (int p = 0; p < st.length; p++) {
                sum -= st[p] * cut.u[p];
            }
            return sum;
        }

        int reach(int c, int plan) {
            int most = 0;
            for (Cut cut : cuts) {
                if (!cut.ray && cut.scene == c) {
                    most = Math.max(most, tells(cut, plan));
                }
            }
            return most;
        }

        int floor(int plan) {
            for (Cut cut : cuts) {
                if (cut.ray && tells(cut, plan) > 0) {
                    return NONE;
                }
            }
            int sum = fees(plan);
            for (int c = 0; c < scenes.size(); c++) {
                sum += scenes.get(c)[0] * reach(c, plan);
            }
            return sum;
        }

        int total(int plan) {
            int sum = fees(plan);
            for (int c = 0; c < scenes.size(); c++) {
                if (fails(c, plan)) {
                    return NONE;
                }
                sum += scenes.get(c)[0] * price(c, plan);
            }
            return sum;
        }

        float gap() {
            return upper == 0 ? 0f : (float) (upper - lower) / (float) upper;
        }

        /** One round on this very world; -5: refused, and the world is spoilt. */
        int round(int way, int keep, int tolerance, int room) {
            rounds++;
            Integer m = null;
            for (int plan : plans()) {
                if (floor(plan) != NONE && (m == null || floor(plan) < floor(m))) {
                    m = plan;
                }
            }
            master = m;
            if (m == null) {
                over = 2;
                return 0;
            }
            List<Cut> fresh = newCuts(m, way);
            int floor = floor(m);
            for (Cut cut : cuts) {
                boolean tight = tells(cut, m) == (cut.ray ? 0 : reach(cut.scene, m));
                cut.age = tight ? 0 : Math.min(99, cut.age + 1);
            }
            boolean rises = lower == null || floor > lower;
            if (rises) {
                lower = floor;
            }
            int total = total(m);
            if (total != NONE && (upper == null || total < upper)) {
                upper = total;
                best = m;
            }
            if (upper != null && lower >= upper) {
                over = 1;
                return 0;
            }
            if (upper != null && gap() <= (float) tolerance / 1000f) {
                over = 3;
                return 0;
            }
            if (rises && keep != 0) {
                int before = cuts.size();
                cuts.removeIf(c -> c.age >= keep);
                gone += before - cuts.size();
            }
            cuts.addAll(fresh);
            return cuts.size() > room ? -5 : fresh.size();
        }

        List<Cut> newCuts(int m, int way) {
            List<Cut> all = new ArrayList<>();
            for (int c = 0; c < scenes.size(); c++) {
                if (fails(c, m) || price(c, m) > reach(c, m)) {
                    all.add(cutOf(c, m));
                }
            }
            if (way == 0 || all.isEmpty()) {
                return all;
            }
            Cut one = null;
            for (Cut cut : all) {
                if (cut.ray && (one == null || lack(cut.scene, m) > lack(one.scene, m))) {
                    one = cut;
                }
            }
            if (one == null) {
                for (Cut cut : all) {
                    if (one == null || excess(cut.scene, m) > excess(one.scene, m)) {
                        one = cut;
                    }
                }
            }
            return List.of(one);
        }

        int excess(int c, int m) {
            return scenes.get(c)[0] * (price(c, m) - reach(c, m));
        }

        void forgetRounds() {
            over = 0;
            lower = null;
            upper = null;
            best = null;
            master = null;
            rounds = 0;
            gone = 0;
        }

        void changed() {
            forgetRounds();
            cuts.removeIf(c -> !holds(c));
            cuts.forEach(c -> c.age = 0);
        }
    }

    private record Act(int kind, World ahead) { }

    private World w = new World();
    private int[] terms = {0, 0, 0, 40};
    private byte[] tape = {};
    private int fault = NONE;
    private final Deque<Act> acts = new ArrayDeque<>();
    private final World[] images = new World[2];
    private final int[][] imageTerms = new int[2][];
    private final int[] refused = new int[7];
    private int status;

    World world() {
        return w;
    }

    private int refuse(int by) {
        refused[-by]++;
        status = by;
        return by;
    }

    private int fine(int answer) {
        status = 0;
        return answer;
    }

    private void keep(int kind) {
        acts.push(new Act(kind, w.copy()));
        while (acts.size() > 12) {
            acts.removeLast();
        }
    }

    int terms(int what, int value) {
        int[][] range = {{0, 1}, {0, 9}, {0, 1000}, {4, 40}};
        if (what < 0 || what > 3 || value < range[what][0] || value > range[what][1]) {
            return refuse(-1);
        }
        int was = terms[what];
        terms[what] = value;
        return fine(was);
    }

    int feed(int... five) {
        if (tape.length + 20 > 400) {
            return NONE;
        }
        int n = tape.length;
        tape = Arrays.copyOf(tape, n + 20);
        for (int i = 0; i < 20; i++) {
            tape[n + i] = (byte) (five[i / 4] >>> 8 * (3 - i % 4));
        }
        return tape.length;
    }

    int end(int n) {
        if (n < 0 || n > tape.length) {
            return NONE;
        }
        tape = Arrays.copyOf(tape, n);
        return n;
    }

    @SuppressWarnings("serial")
    private static final class Fault extends RuntimeException {
        final int at;

        Fault(int at) {
            this.at = at;
        }
    }

    private List<String> tokens;
    private List<Integer> places;
    private int at;

    private String peek() {
        return at < tokens.size() ? tokens.get(at) : "";
    }

    private void stop() {
        throw new Fault(places.get(at));
    }

    private int number(int low, int high) {
        int value = peekNumber(low, high);
        at++;
        return value;
    }

    private int peekNumber(int low, int high) {
        String t = peek();
        if (!t.matches("[0-9]+")) {
            stop();
        }
        String cut = t.replaceFirst("^0+(?=.)", "");
        if (cut.length() > 6 || Integer.parseInt(cut) < low || Integer.parseInt(cut) > high) {
            stop();
        }
        return Integer.parseInt(cut);
    }

    private void line(World x) {
        switch (peek()) {
            case "plant" -> {
                if (x.plants.size() == 4) {
                    stop();
                }
                at++;
                x.plants.add(new int[] {number(0, 999), number(1, 20), number(0, 3)});
            }
            case "site" -> {
                if (x.sites == 6) {
                    stop();
                }
                at++;
                x.sites++;
            }
            case "road" -> {
                at++;
                int p = number(0, x.plants.size() - 1);
                int s = peekNumber(0, x.sites - 1);
                if (x.tolls[p][s] != NONE) {
                    stop();
                }
                at++;
                x.tolls[p][s] = number(0, 99);
            }
            case "case" -> {
                if (x.scenes.size() == 4) {
                    stop();
                }
                at++;
                int[] scene = new int[7];
                scene[0] = number(1, 9);
                int n = 0;
                while (peek().matches("[0-9]+")) {
                    if (n == x.sites) {
                        stop();
                    }
                    scene[1 + n++] = number(0, 20);
                }
                x.scenes.add(scene);
            }
            default -> stop();
        }
    }

    int read() {
        String text = new String(tape, StandardCharsets.ISO_8859_1);
        tape = new byte[0];
        tokens = new ArrayList<>();
        places = new ArrayList<>();
        at = 0;
        Matcher m = Pattern.compile("[a-z]+|[0-9]+|[^ ]", Pattern.DOTALL).matcher(text);
        while (m.find()) {
            tokens.add(m.group());
            places.add(m.start());
        }
        places.add(text.length());
        World x = new World();
        int lines = 0;
        try {
            while (true) {
                line(x);
                lines++;
                if (at == tokens.size()) {
                    break;
                }
                if (!peek().equals(";")) {
                    stop();
                }
                at++;
            }
        } catch (Fault f) {
            fault = f.at;
            return refuse(-6);
        }
        fault = NONE;
        keep(0);
        w = x;
        return fine(lines);
    }

    int fault() {
        return fault;
    }

    private static boolean in(int low, int value, int high) {
        return low <= value && value <= high;
    }

    int plant(int fee, int size, int most) {
        if (!in(0, fee, 999) || !in(1, size, 20) || !in(0, most, 3)) {
            return refuse(-1);
        }
        if (w.plants.size() == 4) {
            return refuse(-5);
        }
        keep(1);
        w.plants.add(new int[] {fee, size, most});
        w.changed();
        return fine(w.plants.size() - 1);
    }

    int site() {
        if (w.sites == 6) {
            return refuse(-5);
        }
        keep(2);
        w.sites++;
        w.changed();
        return fine(w.sites - 1);
    }

    private boolean isPlant(int p) {
        return in(0, p, w.plants.size() - 1);
    }

    private boolean isSite(int s) {
        return in(0, s, w.sites - 1);
    }

    private boolean isScene(int c) {
        return in(0, c, w.scenes.size() - 1);
    }

    int road(int p, int s, int toll) {
        if (!in(-1, toll, 99)) {
            return refuse(-1);
        }
        if (!isPlant(p) || !isSite(s)) {
            return refuse(-2);
        }
        int was = w.tolls[p][s];
        if (was == toll) {
            return refuse(-4);
        }
        keep(3);
        w.tolls[p][s] = toll;
        w.changed();
        return fine(was + 1);
    }

    int scene(int weight) {
        if (!in(1, weight, 9)) {
            return refuse(-1);
        }
        if (w.scenes.size() == 4) {
            return refuse(-5);
        }
        keep(4);
        w.scenes.add(new int[] {weight, 0, 0, 0, 0, 0, 0});
        w.changed();
        return fine(w.scenes.size() - 1);
    }

    int need(int c, int s, int value) {
        if (!in(0, value, 20)) {
            return refuse(-1);
        }
        if (!isScene(c) || !isSite(s)) {
            return refuse(-2);
        }
        int was = w.needOf(c, s);
        if (was == value) {
            return refuse(-4);
        }
        keep(5);
        w.scenes.get(c)[1 + s] = value;
        w.changed();
        return fine(was);
    }

    int change(int p, int what, int value) {
        boolean can = what == 0 ? in(0, value, 999) : what == 1 ? in(1, value, 20) : what == 2 && in(0, value, 3);
        if (!can) {
            return refuse(-1);
        }
        if (!isPlant(p)) {
            return refuse(-2);
        }
        int was = w.plants.get(p)[what];
        if (was == value) {
            return refuse(-4);
        }
        keep(6);
        w.plants.get(p)[what] = value;
        w.changed();
        return fine(was);
    }

    /** -5 and nothing done, or the cuts that came. */
    private int oneRound() {
        World next = w.copy();
        int came = next.round(terms[0], terms[1], terms[2], terms[3]);
        if (came != -5) {
            w = next;
        }
        return came;
    }

    int round() {
        if (w.over != 0) {
            return refuse(-3);
        }
        World ahead = w.copy();
        int came = oneRound();
        if (came == -5) {
            return refuse(-5);
        }
        World after = w;
        w = ahead;
        keep(7);
        w = after;
        return fine(came);
    }

    int go(int n) {
        if (!in(1, n, 99)) {
            return refuse(-1);
        }
        if (w.over != 0) {
            return refuse(-3);
        }
        World ahead = w.copy();
        int done = 0;
        while (done < n && w.over == 0) {
            if (oneRound() == -5) {
                break;
            }
            done++;
        }
        if (done == 0) {
            return refuse(-5);
        }
        World after = w;
        w = ahead;
        keep(8);
        w = after;
        return fine(done);
    }

    int clear() {
        keep(9);
        int went = w.cuts.size();
        w.cuts.clear();
        w.forgetRounds();
        return went;
    }

    int undo() {
        if (acts.isEmpty()) {
            return refuse(-4);
        }
        Act act = acts.pop();
        w = act.ahead();
        return fine(act.kind());
    }

    int of(int p, int what) {
        if (!isPlant(p) || what < 0) {
            return NONE;
        }
        if (what < 3) {
            return w.plants.get(p)[what];
        }
        return isSite(what - 3) ? w.tolls[p][what - 3] : NONE;
    }

    int told(int c, int what) {
        if (!isScene(c) || what < 0) {
            return NONE;
        }
        return what == 0 ? w.scenes.get(c)[0] : isSite(what - 1) ? w.needOf(c, what - 1) : NONE;
    }

    private static int orNone(Integer x) {
        return x == null ? NONE : x;
    }

    int now(int what) {
        return switch (what) {
            case 0 -> w.over;
            case 1 -> orNone(w.lower);
            case 2 -> orNone(w.upper);
            case 3 -> orNone(w.best);
            case 4 -> orNone(w.master);
            case 5 -> w.rounds;
            case 6 -> w.cuts.size();
            case 7 -> (int) w.cuts.stream().filter(c -> c.ray).count();
            case 8 -> w.gone;
            default -> NONE;
        };
    }

    int gap() {
        return w.upper == null ? NONE : Float.floatToIntBits(w.gap());
    }

    int cut(int i, int what) {
        if (!in(0, i, w.cuts.size() - 1)) {
            return NONE;
        }
        Cut cut = w.cuts.get(i);
        if (what == 0) {
            return cut.scene;
        }
        if (what == 1) {
            return cut.ray ? 1 : 0;
        }
        if (what == 2) {
            return cut.age;
        }
        if (in(3, what, 6) && isPlant(what - 3)) {
            return cut.u[what - 3];
        }
        return in(7, what, 12) && isSite(what - 7) ? cut.v[what - 7] : NONE;
    }

    int tells(int i, int plan) {
        if (!in(0, i, w.cuts.size() - 1) || !w.isPlan(plan)) {
            return Integer.MIN_VALUE;
        }
        return w.tells(w.cuts.get(i), plan);
    }

    int exact(int i) {
        if (!in(0, i, w.cuts.size() - 1)) {
            return NONE;
        }
        Cut cut = w.cuts.get(i);
        int found = 0;
        for (int plan : w.plans()) {
            int says = w.tells(cut, plan);
            boolean point = !w.fails(cut.scene, plan) && says == w.price(cut.scene, plan);
            boolean ray = says > 0 && says == w.lack(cut.scene, plan);
            found += (cut.ray ? ray : point) ? 1 : 0;
        }
        return found;
    }

    int price(int c, int plan) {
        return isScene(c) && w.isPlan(plan) && !w.fails(c, plan) ? w.price(c, plan) : NONE;
    }

    int lack(int c, int plan) {
        return isScene(c) && w.isPlan(plan) ? w.lack(c, plan) : NONE;
    }

    int rate(int c, int plan, int what) {
        if (!isScene(c) || !w.isPlan(plan)) {
            return NONE;
        }
        if (in(0, what, 3)) {
            return isPlant(what) ? w.cutOf(c, plan).u[what] : NONE;
        }
        return in(4, what, 9) && isSite(what - 4) ? w.cutOf(c, plan).v[what - 4] : NONE;
    }

    int floor(int plan) {
        return w.isPlan(plan) ? w.floor(plan) : NONE;
    }

    int total(int plan) {
        return w.isPlan(plan) ? w.total(plan) : NONE;
    }

    int least(int what) {
        int best = NONE;
        for (int plan : w.plans()) {
            int total = w.total(plan);
            if (total != NONE && (best == NONE || total < w.total(best))) {
                best = plan;
            }
        }
        if (best == NONE || !in(0, what, 1)) {
            return NONE;
        }
        return what == 1 ? best : w.total(best);
    }

    int regret(int plan) {
        if (!w.isPlan(plan) || w.total(plan) == NONE) {
            return NONE;
        }
        int worst = 0;
        for (int c = 0; c < w.scenes.size(); c++) {
            int least = Integer.MAX_VALUE;
            for (int other : w.plans()) {
                if (!w.fails(c, other)) {
                    least = Math.min(least, w.fees(other) + w.price(c, other));
                }
            }
            worst = Math.max(worst, w.fees(plan) + w.price(c, plan) - least);
        }
        return worst;
    }

    long mean(int plan) {
        if (!w.isPlan(plan) || w.total(plan) == NONE || w.scenes.isEmpty()) {
            return NONE;
        }
        double weights = 0;
        double sum = 0;
        for (int c = 0; c < w.scenes.size(); c++) {
            weights += w.scenes.get(c)[0];
            sum += w.scenes.get(c)[0] * w.price(c, plan);
        }
        return Double.doubleToLongBits(sum / weights);
    }

    int would(int way, int keep) {
        if (!in(0, way, 1) || !in(0, keep, 9)) {
            return NONE;
        }
        World paper = w.copy();
        paper.cuts.clear();
        paper.forgetRounds();
        for (int n = 1; n <= 99; n++) {
            if (paper.round(way, keep, 0, 99) == -5) {
                return NONE;
            }
            if (paper.over != 0) {
                return n;
            }
        }
        return NONE;
    }

    int image(int k) {
        if (!in(0, k, 1)) {
            return refuse(-1);
        }
        images[k] = w.copy();
        imageTerms[k] = terms.clone();
        return fine(0);
    }

    int back(int k) {
        if (!in(0, k, 1)) {
            return refuse(-1);
        }
        if (images[k] == null) {
            return refuse(-2);
        }
        w = images[k].copy();
        terms = imageTerms[k].clone();
        acts.clear();
        return fine(0);
    }

    int count(int what) {
        if (in(7, what, 12)) {
            return refused[what - 6];
        }
        if (in(13, what, 16)) {
            return terms[what - 13];
        }
        return switch (what) {
            case 0 -> w.plants.size();
            case 1 -> w.sites;
            case 2 -> w.scenes.size();
            case 3 -> (int) Arrays.stream(w.tolls).flatMapToInt(Arrays::stream).filter(t -> t != NONE).count();
            case 4 -> w.plans().size();
            case 5 -> acts.size();
            case 6 -> tape.length;
            default -> NONE;
        };
    }

    int status() {
        return status;
    }
}
