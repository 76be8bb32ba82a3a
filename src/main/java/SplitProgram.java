import java.util.Arrays;

/**
 * A program split by its hard unknowns: a master chooses how many units of each plant are
 * built, each case alone tells what it costs to serve the sites, and cuts carry that back.
 *
 * <p>Every row is made with the object and used again, so that a call makes nothing new.
 */
public final class SplitProgram {
    public static final int NONE = -1;

    private static final int PLANTS = 4;
    private static final int SITES = 6;
    private static final int CASES = 4;
    private static final int PLANS = 256;
    private static final int PLANT_SETS = 16;

    private static final int FEE_MOST = 999;
    private static final int SIZE_MOST = 20;
    private static final int UNITS_MOST = 3;
    private static final int TOLL_MOST = 99;
    private static final int WEIGHT_MOST = 9;
    private static final int NEED_MOST = 20;
    private static final int AGE_MOST = 99;
    private static final int ROUNDS_MOST = 99;

    private static final int WAY = 0;
    private static final int KEEP = 1;
    private static final int TOLERANCE = 2;
    private static final int ROOM = 3;
    private static final int TERMS = 4;
    private static final int[] TERM_LOWEST = {0, 0, 0, 4};
    private static final int[] TERM_HIGHEST = {1, 9, 1000, 40};
    private static final int CUTS_MOST = 40;
    private static final int CUTS_ON_PAPER = 99;

    private static final int BAD_NUMBER = -1;
    private static final int NO_SUCH = -2;
    private static final int IS_OVER = -3;
    private static final int CANNOT_BE = -4;
    private static final int NO_ROOM = -5;
    private static final int NOT_READ = -6;
    private static final int REFUSALS = 6;

    private static final int BOUNDS_MEET = 1;
    private static final int NO_PLAN_LEFT = 2;
    private static final int GAP_SMALL = 3;

    private static final int READ_ACT = 0;
    private static final int PLANT_ACT = 1;
    private static final int SITE_ACT = 2;
    private static final int ROAD_ACT = 3;
    private static final int SCENE_ACT = 4;
    private static final int NEED_ACT = 5;
    private static final int CHANGE_ACT = 6;
    private static final int ROUND_ACT = 7;
    private static final int GO_ACT = 8;
    private static final int CLEAR_ACT = 9;
    private static final int ACTS_KEPT = 12;
    private static final int IMAGES = 2;

    private static final int TELLS_NOTHING = -2147483648;
    private static final int UNKNOWN = -2;
    private static final int FAR = 1000000;

    private final State state = new State();
    private final int[] termValues = new int[TERMS];
    private final Engine engine = new Engine();
    private final Tape tape = new Tape();
    private final Program draft = new Program();
    private final History history = new History();
    private final State[] images = new State[IMAGES];
    private final int[] imageTerms = new int[IMAGES * TERMS];
    private final boolean[] imageKept = new boolean[IMAGES];
    private final Cuts paperCuts = new Cuts(CUTS_ON_PAPER);
    private final Search paperSearch = new Search();
    private final int[] paperTerms = new int[TERMS];
    private final int[] refusals = new int[REFUSALS];
    private int latestRefusal;

    public SplitProgram() {
        termValues[ROOM] = CUTS_MOST;
        for (int k = 0; k < IMAGES; k++) {
            images[k] = new State();
        }
    }

    public int terms(int what, int value) {
        if (what < 0 || what >= TERMS) {
            return refuse(BAD_NUMBER);
        }
        if (value < TERM_LOWEST[what] || value > TERM_HIGHEST[what]) {
            return refuse(BAD_NUMBER);
        }
        int was = termValues[what];
        termValues[what] = value;
        return accept(was);
    }

    public int feed(int a, int b, int c, int d, int e) {
        if (!tape.hasRoomForFive()) {
            return NONE;
        }
        tape.append(a);
        tape.append(b);
        tape.append(c);
        tape.append(d);
        tape.append(e);
        return tape.length;
    }

    public int end(int n) {
        if (n < 0 || n > tape.length) {
            return NONE;
        }
        tape.length = n;
        return n;
    }

    public int read() {
        int lines = tape.parse(draft);
        tape.length = 0;
        if (lines == NONE) {
            return refuse(NOT_READ);
        }
        history.keep(state, READ_ACT);
        state.program.copyFrom(draft);
        state.cuts.size = 0;
        engine.book.forgetAll();
        afterChange();
        return accept(lines);
    }

    public int fault() {
        return tape.fault;
    }

    public int plant(int fee, int size, int most) {
        Program g = state.program;
        if (!canBe(0, fee) || !canBe(1, size) || !canBe(2, most)) {
            return refuse(BAD_NUMBER);
        }
        if (g.plants >= PLANTS) {
            return refuse(NO_ROOM);
        }
        history.keep(state, PLANT_ACT);
        g.addPlant(fee, size, most);
        engine.book.forgetAll();
        afterChange();
        return accept(g.plants - 1);
    }

    public int site() {
        Program g = state.program;
        if (g.sites >= SITES) {
            return refuse(NO_ROOM);
        }
        history.keep(state, SITE_ACT);
        g.sites++;
        engine.book.forgetAll();
        afterChange();
        return accept(g.sites - 1);
    }

    public int road(int plant, int site, int toll) {
        Program g = state.program;
        if (toll < NONE || toll > TOLL_MOST) {
            return refuse(BAD_NUMBER);
        }
        if (!g.hasPlant(plant) || !g.hasSite(site)) {
            return refuse(NO_SUCH);
        }
        int at = plant * SITES + site;
        int was = g.tolls[at];
        if (was == toll) {
            return refuse(CANNOT_BE);
        }
        history.keep(state, ROAD_ACT);
        g.tolls[at] = toll;
        engine.book.forgetAll();
        afterChange();
        return accept(was + 1);
    }

    public int scene(int weight) {
        Program g = state.program;
        if (weight < 1 || weight > WEIGHT_MOST) {
            return refuse(BAD_NUMBER);
        }
        if (g.cases >= CASES) {
            return refuse(NO_ROOM);
        }
        history.keep(state, SCENE_ACT);
        g.addCase(weight);
        engine.book.forgetAll();
        afterChange();
        return accept(g.cases - 1);
    }

    public int need(int scene, int site, int value) {
        Program g = state.program;
        if (value < 0 || value > NEED_MOST) {
            return refuse(BAD_NUMBER);
        }
        if (!g.hasCase(scene) || !g.hasSite(site)) {
            return refuse(NO_SUCH);
        }
        int at = scene * SITES + site;
        int was = g.needs[at];
        if (was == value) {
            return refuse(CANNOT_BE);
        }
        history.keep(state, NEED_ACT);
        g.needs[at] = value;
        engine.book.forgetCase(scene);
        afterChange();
        return accept(was);
    }

    public int change(int plant, int what, int value) {
        Program g = state.program;
        if (!canBe(what, value)) {
            return refuse(BAD_NUMBER);
        }
        if (!g.hasPlant(plant)) {
            return refuse(NO_SUCH);
        }
        int was = g.plantValue(plant, what);
        if (was == value) {
            return refuse(CANNOT_BE);
        }
        history.keep(state, CHANGE_ACT);
        g.setPlantValue(plant, what, value);
        engine.book.forgetAll();
        afterChange();
        return accept(was);
    }

    public int round() {
        if (state.search.over != 0) {
            return refuse(IS_OVER);
        }
        if (!engine.decide(state.program, state.cuts, state.search, termValues)) {
            return refuse(NO_ROOM);
        }
        history.keep(state, ROUND_ACT);
        return accept(engine.apply(state.program, state.cuts, state.search, termValues[KEEP]));
    }

    public int go(int n) {
        if (n < 1 || n > ROUNDS_MOST) {
            return refuse(BAD_NUMBER);
        }
        if (state.search.over != 0) {
            return refuse(IS_OVER);
        }
        if (!engine.decide(state.program, state.cuts, state.search, termValues)) {
            return refuse(NO_ROOM);
        }
        history.keep(state, GO_ACT);
        engine.apply(state.program, state.cuts, state.search, termValues[KEEP]);
        int more = engine.run(state.program, state.cuts, state.search, termValues, n - 1);
        return accept(1 + more);
    }

    public int clear() {
        history.keep(state, CLEAR_ACT);
        int went = state.cuts.size;
        state.cuts.size = 0;
        state.search.reset();
        engine.bounds.stale = true;
        return went;
    }

    public int undo() {
        int act = history.takeBack(state);
        if (act == NONE) {
            return refuse(CANNOT_BE);
        }
        forgetDerived();
        return accept(act);
    }

    public int of(int plant, int what) {
        Program g = state.program;
        if (!g.hasPlant(plant)) {
            return NONE;
        }
        if (what >= 0 && what <= 2) {
            return g.plantValue(plant, what);
        }
        if (what < 3 || !g.hasSite(what - 3)) {
            return NONE;
        }
        return g.tolls[plant * SITES + what - 3];
    }

    public int told(int scene, int what) {
        Program g = state.program;
        if (!g.hasCase(scene)) {
            return NONE;
        }
        if (what == 0) {
            return g.weights[scene];
        }
        if (what < 1 || !g.hasSite(what - 1)) {
            return NONE;
        }
        return g.needs[scene * SITES + what - 1];
    }

    public int now(int what) {
        Search s = state.search;
        switch (what) {
            case 0: return s.over;
            case 1: return s.lower;
            case 2: return s.upper;
            case 3: return s.best;
            case 4: return s.master;
            case 5: return s.rounds;
            case 6: return state.cuts.size;
            case 7: return state.cuts.countRays();
            case 8: return s.gone;
            default: return NONE;
        }
    }

    public int gap() {
        Search s = state.search;
        if (s.upper == NONE) {
            return NONE;
        }
        return bitsOfFloat(gapBetween(s.lower, s.upper));
    }

    public int cut(int i, int what) {
        Cuts cuts = state.cuts;
        if (i < 0 || i >= cuts.size) {
            return NONE;
        }
        if (what == 0) {
            return cuts.cases[i];
        }
        if (what == 1) {
            return cuts.rays[i];
        }
        if (what == 2) {
            return cuts.ages[i];
        }
        if (what >= 3 && what < 3 + PLANTS) {
            return state.program.hasPlant(what - 3) ? cuts.u[i * PLANTS + what - 3] : NONE;
        }
        if (what >= 7 && what < 7 + SITES) {
            return state.program.hasSite(what - 7) ? cuts.v[i * SITES + what - 7] : NONE;
        }
        return NONE;
    }

    public int tells(int i, int plan) {
        if (i < 0 || i >= state.cuts.size || !state.program.isPlan(plan)) {
            return TELLS_NOTHING;
        }
        return state.cuts.valueAt(state.program, i, plan);
    }

    public int exact(int i) {
        if (i < 0 || i >= state.cuts.size) {
            return NONE;
        }
        int found = 0;
        for (int plan = 0; plan < PLANS; plan++) {
            if (state.program.isPlan(plan) && fitsAt(i, plan)) {
                found++;
            }
        }
        return found;
    }

    public int price(int scene, int plan) {
        if (!state.program.hasCase(scene) || !state.program.isPlan(plan)) {
            return NONE;
        }
        return engine.book.priceAt(state.program, scene, plan);
    }

    public int lack(int scene, int plan) {
        if (!state.program.hasCase(scene) || !state.program.isPlan(plan)) {
            return NONE;
        }
        return engine.book.freight.lackAt(state.program, scene, plan);
    }

    public int rate(int scene, int plan, int what) {
        Program g = state.program;
        if (!g.hasCase(scene) || !g.isPlan(plan)) {
            return NONE;
        }
        Freight freight = engine.book.freight;
        if (what >= 0 && what < PLANTS) {
            if (!g.hasPlant(what)) {
                return NONE;
            }
            freight.findRates(g, scene, plan);
            return freight.u[what];
        }
        if (what < PLANTS || !g.hasSite(what - PLANTS)) {
            return NONE;
        }
        freight.findRates(g, scene, plan);
        return freight.v[what - PLANTS];
    }

    public int floor(int plan) {
        if (!state.program.isPlan(plan)) {
            return NONE;
        }
        engine.bounds.freshen(state.program, state.cuts);
        return engine.bounds.floorAt(state.program, plan);
    }

    public int total(int plan) {
        if (!state.program.isPlan(plan)) {
            return NONE;
        }
        return engine.book.totalAt(state.program, plan);
    }

    public int least(int what) {
        if (what != 0 && what != 1) {
            return NONE;
        }
        int plan = engine.book.cheapestPlan(state.program);
        if (plan == NONE || what == 1) {
            return plan;
        }
        return engine.book.totalAt(state.program, plan);
    }

    public int regret(int plan) {
        Program g = state.program;
        Book book = engine.book;
        if (!g.isPlan(plan) || book.totalAt(g, plan) == NONE) {
            return NONE;
        }
        int worst = 0;
        for (int c = 0; c < g.cases; c++) {
            int cost = g.feesOf(plan) + book.priceAt(g, c, plan);
            worst = Math.max(worst, cost - book.leastOfCase(g, c));
        }
        return worst;
    }

    public long mean(int plan) {
        Program g = state.program;
        if (!g.isPlan(plan) || g.cases == 0) {
            return NONE;
        }
        int whole = engine.book.totalAt(g, plan);
        int weights = g.sumOfWeights();
        if (whole == NONE || weights <= 0) {
            return NONE;
        }
        return bitsOfDouble((double) (whole - g.feesOf(plan)) / (double) weights);
    }

    public int would(int way, int keep) {
        if (way < TERM_LOWEST[WAY] || way > TERM_HIGHEST[WAY]) {
            return NONE;
        }
        if (keep < TERM_LOWEST[KEEP] || keep > TERM_HIGHEST[KEEP]) {
            return NONE;
        }
        paperTerms[WAY] = way;
        paperTerms[KEEP] = keep;
        paperTerms[TOLERANCE] = 0;
        paperTerms[ROOM] = CUTS_ON_PAPER;
        paperCuts.size = 0;
        paperSearch.reset();
        engine.bounds.stale = true;
        int rounds = engine.run(state.program, paperCuts, paperSearch, paperTerms, ROUNDS_MOST);
        engine.bounds.stale = true;
        return paperSearch.over != 0 ? rounds : NONE;
    }

    public int image(int k) {
        if (k < 0 || k >= IMAGES) {
            return refuse(BAD_NUMBER);
        }
        images[k].copyFrom(state);
        System.arraycopy(termValues, 0, imageTerms, k * TERMS, TERMS);
        imageKept[k] = true;
        return accept(0);
    }

    public int back(int k) {
        if (k < 0 || k >= IMAGES) {
            return refuse(BAD_NUMBER);
        }
        if (!imageKept[k]) {
            return refuse(NO_SUCH);
        }
        state.copyFrom(images[k]);
        System.arraycopy(imageTerms, k * TERMS, termValues, 0, TERMS);
        history.size = 0;
        forgetDerived();
        return accept(0);
    }

    public int count(int what) {
        Program g = state.program;
        if (what >= 7 && what < 7 + REFUSALS) {
            return refusals[what - 7];
        }
        if (what >= 13 && what < 13 + TERMS) {
            return termValues[what - 13];
        }
        switch (what) {
            case 0: return g.plants;
            case 1: return g.sites;
            case 2: return g.cases;
            case 3: return g.countRoads();
            case 4: return g.countPlans();
            case 5: return history.size;
            case 6: return tape.length;
            default: return NONE;
        }
    }

    public int status() {
        return latestRefusal;
    }

    private int refuse(int by) {
        int at = -1 - by;
        if (at >= 0 && at < REFUSALS) {
            refusals[at]++;
        }
        latestRefusal = by;
        return by;
    }

    private int accept(int answer) {
        latestRefusal = 0;
        return answer;
    }

    private void afterChange() {
        state.search.reset();
        state.cuts.keepHolding(state.program);
        engine.bounds.stale = true;
    }

    private void forgetDerived() {
        engine.book.forgetAll();
        engine.bounds.stale = true;
    }

    private boolean fitsAt(int i, int plan) {
        Program g = state.program;
        int c = state.cuts.cases[i];
        int value = state.cuts.valueAt(g, i, plan);
        if (state.cuts.rays[i] == 1) {
            return value > 0 && value == engine.book.freight.lackAt(g, c, plan);
        }
        int least = engine.book.priceAt(g, c, plan);
        return least != NONE && value == least;
    }

    /** Whether a plant's fee (0), size (1), most (2) can have this value. */
    private static boolean canBe(int what, int value) {
        switch (what) {
            case 0: return value >= 0 && value <= FEE_MOST;
            case 1: return value >= 1 && value <= SIZE_MOST;
            case 2: return value >= 0 && value <= UNITS_MOST;
            default: return false;
        }
    }

    private static int unitsIn(int plan, int plant) {
        return (plan >> (2 * plant)) & 3;
    }

    private static float gapBetween(int lower, int upper) {
        if (upper <= 0) {
            return 0.0f;
        }
        return (float) (upper - lower) / (float) upper;
    }

    /** The bits by hand, as the language's library has no floatToIntBits; x is a gap: 0, or normal and 1 at most. */
    private static int bitsOfFloat(float x) {
        if (!(x > 0.0f)) {
            return 0;
        }
        float rest = x;
        int exponent = 127;
        for (int i = 0; i < 126 && rest < 1.0f; i++) {
            rest = rest * 2.0f;
            exponent--;
        }
        int digits = (int) (rest * 8388608.0f);
        return (exponent << 23) | (digits & 8388607);
    }

    /** As bitsOfFloat, of a mean, which may be above 1. */
    private static long bitsOfDouble(double x) {
        if (!(x > 0.0)) {
            return 0L;
        }
        double rest = x;
        long exponent = 1023L;
        for (int i = 0; i < 1024 && rest >= 2.0; i++) {
            rest = rest / 2.0;
            exponent++;
        }
        for (int i = 0; i < 1022 && rest < 1.0; i++) {
            rest = rest * 2.0;
            exponent--;
        }
        long digits = (long) (rest * 4503599627370496.0);
        return (exponent << 52) | (digits & 4503599627370495L);
    }

    /** Plants, sites, roads and cases; what is not there yet has 0 everywhere and no road. */
    private static final class Program {
        int plants;
        int sites;
        int cases;
        final int[] fees = new int[PLANTS];
        final int[] sizes = new int[PLANTS];
        final int[] mosts = new int[PLANTS];
        final int[] tolls = new int[PLANTS * SITES];
        final int[] weights = new int[CASES];
        final int[] needs = new int[CASES * SITES];

        Program() {
            Arrays.fill(tolls, NONE);
        }

        void wipe() {
            plants = 0;
            sites = 0;
            cases = 0;
            Arrays.fill(fees, 0);
            Arrays.fill(sizes, 0);
            Arrays.fill(mosts, 0);
            Arrays.fill(tolls, NONE);
            Arrays.fill(weights, 0);
            Arrays.fill(needs, 0);
        }

        void copyFrom(Program other) {
            plants = other.plants;
            sites = other.sites;
            cases = other.cases;
            System.arraycopy(other.fees, 0, fees, 0, PLANTS);
            System.arraycopy(other.sizes, 0, sizes, 0, PLANTS);
            System.arraycopy(other.mosts, 0, mosts, 0, PLANTS);
            System.arraycopy(other.tolls, 0, tolls, 0, PLANTS * SITES);
            System.arraycopy(other.weights, 0, weights, 0, CASES);
            System.arraycopy(other.needs, 0, needs, 0, CASES * SITES);
        }

        void addPlant(int fee, int size, int most) {
            if (plants < PLANTS) {
                fees[plants] = fee;
                sizes[plants] = size;
                mosts[plants] = most;
                plants++;
            }
        }

        void addCase(int weight) {
            if (cases < CASES) {
                weights[cases] = weight;
                cases++;
            }
        }

        boolean hasPlant(int p) {
            return p >= 0 && p < plants;
        }

        boolean hasSite(int s) {
            return s >= 0 && s < sites;
        }

        boolean hasCase(int c) {
            return c >= 0 && c < cases;
        }

        int plantValue(int p, int what) {
            return what == 0 ? fees[p] : what == 1 ? sizes[p] : mosts[p];
        }

        void setPlantValue(int p, int what, int value) {
            if (what == 0) {
                fees[p] = value;
            } else if (what == 1) {
                sizes[p] = value;
            } else {
                mosts[p] = value;
            }
        }

        boolean isPlan(int plan) {
            if (plan < 0 || plan >= PLANS) {
                return false;
            }
            for (int p = 0; p < PLANTS; p++) {
                if (unitsIn(plan, p) > mosts[p]) {
                    return false;
                }
            }
            return true;
        }

        int feesOf(int plan) {
            int sum = 0;
            for (int p = 0; p < plants; p++) {
                sum += unitsIn(plan, p) * fees[p];
            }
            return sum;
        }

        int countRoads() {
            int found = 0;
            for (int at = 0; at < PLANTS * SITES; at++) {
                if (tolls[at] != NONE) {
                    found++;
                }
            }
            return found;
        }

        int countPlans() {
            int product = 1;
            for (int p = 0; p < plants; p++) {
                product *= mosts[p] + 1;
            }
            return product;
        }

        int sumOfWeights() {
            int sum = 0;
            for (int c = 0; c < cases; c++) {
                sum += weights[c];
            }
            return sum;
        }

        /** The plants that have a road to a site, a bit each. */
        int plantsOf(int s) {
            int mask = 0;
            for (int p = 0; p < plants; p++) {
                if (tolls[p * SITES + s] != NONE) {
                    mask |= 1 << p;
                }
            }
            return mask;
        }
    }

    /** The cuts in the order in which they came. */
    private static final class Cuts {
        final int most;
        int size;
        final int[] cases;
        final int[] rays;
        final int[] ages;
        final int[] u;
        final int[] v;

        Cuts(int room) {
            most = room < 0 ? 0 : room;
            cases = new int[most];
            rays = new int[most];
            ages = new int[most];
            u = new int[most * PLANTS];
            v = new int[most * SITES];
        }

        void copyFrom(Cuts other) {
            size = Math.min(other.size, most);
            System.arraycopy(other.cases, 0, cases, 0, size);
            System.arraycopy(other.rays, 0, rays, 0, size);
            System.arraycopy(other.ages, 0, ages, 0, size);
            System.arraycopy(other.u, 0, u, 0, size * PLANTS);
            System.arraycopy(other.v, 0, v, 0, size * SITES);
        }

        void append(int c, int ray, int[] plantRates, int[] siteRates) {
            if (size >= most) {
                return;
            }
            cases[size] = c;
            rays[size] = ray;
            ages[size] = 0;
            System.arraycopy(plantRates, 0, u, size * PLANTS, PLANTS);
            System.arraycopy(siteRates, 0, v, size * SITES, SITES);
            size++;
        }

        private void move(int from, int to) {
            if (from == to) {
                return;
            }
            cases[to] = cases[from];
            rays[to] = rays[from];
            ages[to] = ages[from];
            System.arraycopy(u, from * PLANTS, u, to * PLANTS, PLANTS);
            System.arraycopy(v, from * SITES, v, to * SITES, SITES);
        }

        /** Behind a change: what does not hold goes, what stays is young again. */
        void keepHolding(Program g) {
            int kept = 0;
            for (int i = 0; i < size; i++) {
                if (holds(g, i)) {
                    move(i, kept);
                    ages[kept] = 0;
                    kept++;
                }
            }
            size = kept;
        }

        private boolean holds(Program g, int i) {
            for (int p = 0; p < g.plants; p++) {
                for (int s = 0; s < g.sites; s++) {
                    int toll = g.tolls[p * SITES + s];
                    int spare = rays[i] == 1 ? 0 : toll;
                    if (toll != NONE && v[i * SITES + s] > u[i * PLANTS + p] + spare) {
                        return false;
                    }
                }
            }
            return true;
        }

        int dropAged(int keep) {
            int kept = 0;
            for (int i = 0; i < size; i++) {
                if (ages[i] < keep) {
                    move(i, kept);
                    kept++;
                }
            }
            int went = size - kept;
            size = kept;
            return went;
        }

        int countRays() {
            int found = 0;
            for (int i = 0; i < size; i++) {
                found += rays[i];
            }
            return found;
        }

        /** What the needs are worth by the i-th cut: what it tells of a plan without any unit. */
        int baseOf(Program g, int i) {
            int sum = 0;
            for (int s = 0; s < g.sites; s++) {
                sum += g.needs[cases[i] * SITES + s] * v[i * SITES + s];
            }
            return sum;
        }

        /** What the i-th cut takes off for each unit of a plant. */
        int slopeOf(Program g, int i, int p) {
            return g.sizes[p] * u[i * PLANTS + p];
        }

        int valueAt(Program g, int i, int plan) {
            int sum = baseOf(g, i);
            for (int p = 0; p < g.plants; p++) {
                sum -= unitsIn(plan, p) * slopeOf(g, i, p);
            }
            return sum;
        }
    }

    /** How far the rounds have come. */
    private static final class Search {
        int over;
        int lower = NONE;
        int upper = NONE;
        int best = NONE;
        int master = NONE;
        int rounds;
        int gone;

        void reset() {
            over = 0;
            lower = NONE;
            upper = NONE;
            best = NONE;
            master = NONE;
            rounds = 0;
            gone = 0;
        }

        void copyFrom(Search other) {
            over = other.over;
            lower = other.lower;
            upper = other.upper;
            best = other.best;
            master = other.master;
            rounds = other.rounds;
            gone = other.gone;
        }
    }

    /** All that undo() and back() go back to, but for the terms, which undo() leaves alone. */
    private static final class State {
        final Program program = new Program();
        final Cuts cuts = new Cuts(CUTS_MOST);
        final Search search = new Search();

        void copyFrom(State other) {
            program.copyFrom(other.program);
            cuts.copyFrom(other.cuts);
            search.copyFrom(other.search);
        }
    }

    /** The latest acts, each with what stood ahead of it, in a ring. */
    private static final class History {
        final State[] states = new State[ACTS_KEPT];
        final int[] acts = new int[ACTS_KEPT];
        int size;
        int next;

        History() {
            for (int i = 0; i < ACTS_KEPT; i++) {
                states[i] = new State();
            }
        }

        void keep(State state, int act) {
            states[next].copyFrom(state);
            acts[next] = act;
            next = next + 1 < ACTS_KEPT ? next + 1 : 0;
            size = Math.min(size + 1, ACTS_KEPT);
        }

        int takeBack(State state) {
            if (size == 0) {
                return NONE;
            }
            size--;
            next = next > 0 ? next - 1 : ACTS_KEPT - 1;
            state.copyFrom(states[next]);
            return acts[next];
        }
    }

    /**
     * One case alone by one plan. Sites are served one after the other, each by the cheapest
     * way there is then: a plant that has some left, or one that is freed by others who take
     * over what it brings elsewhere; so what is brought is always brought at the least cost.
     */
    private static final class Freight {
        final int[] stocks = new int[PLANTS];
        final int[] pools = new int[PLANT_SETS];
        final int[] loads = new int[CASES * PLANT_SETS];
        final boolean[] loadsKnown = new boolean[CASES];
        final int[] left = new int[PLANTS];
        final int[] flow = new int[PLANTS * SITES];
        final int[] swap = new int[PLANTS * PLANTS];
        final int[] swapSite = new int[PLANTS * PLANTS];
        final int[] dear = new int[PLANTS];
        final int[] helper = new int[PLANTS];
        final int[] u = new int[PLANTS];
        final int[] v = new int[SITES];

        /** The loads: of each set of plants what those sites need that no other plant has a road to. */
        private void findLoads(Program g, int c) {
            for (int set = 0; set < PLANT_SETS; set++) {
                loads[c * PLANT_SETS + set] = 0;
            }
            for (int s = 0; s < g.sites; s++) {
                int mask = g.plantsOf(s);
                int value = g.needs[c * SITES + s];
                for (int set = 0; set < PLANT_SETS; set++) {
                    if ((mask & ~set) == 0) {
                        loads[c * PLANT_SETS + set] += value;
                    }
                }
            }
            loadsKnown[c] = true;
        }

        private void findStocks(Program g, int plan) {
            pools[0] = 0;
            for (int p = 0; p < PLANTS; p++) {
                stocks[p] = unitsIn(plan, p) * g.sizes[p];
                int bit = 1 << p;
                for (int set = 0; set < bit; set++) {
                    pools[bit + set] = pools[set] + stocks[p];
                }
            }
        }

        /** The worst set of sites is all that some set of plants serves alone, so sixteen sets are enough. */
        int lackAt(Program g, int c, int plan) {
            if (!loadsKnown[c]) {
                findLoads(g, c);
            }
            findStocks(g, plan);
            int worst = 0;
            for (int set = 0; set < PLANT_SETS; set++) {
                worst = Math.max(worst, loads[c * PLANT_SETS + set] - pools[set]);
            }
            return worst;
        }

        /** For a case that does not fail. */
        int costAt(Program g, int c, int plan) {
            findStocks(g, plan);
            System.arraycopy(stocks, 0, left, 0, PLANTS);
            Arrays.fill(flow, 0);
            for (int s = 0; s < g.sites; s++) {
                int rest = g.needs[c * SITES + s];
                for (int i = 0; i < NEED_MOST && rest > 0; i++) {
                    int p = chooseGiver(g, s);
                    rest -= p == NONE ? 0 : bring(p, s, rest);
                }
            }
            int sum = 0;
            for (int at = 0; at < PLANTS * SITES; at++) {
                sum += flow[at] > 0 ? flow[at] * g.tolls[at] : 0;
            }
            return sum;
        }

        /** The nearest plant, if it has some left, as freeing never costs less than nothing; or else all are weighed. */
        private int chooseGiver(Program g, int s) {
            Arrays.fill(helper, NONE);
            Arrays.fill(dear, 0);
            int nearest = cheapestFor(g, s);
            if (nearest == NONE || left[nearest] > 0) {
                return nearest;
            }
            findSwaps(g);
            findDear();
            return cheapestFor(g, s);
        }

        private int cheapestFor(Program g, int s) {
            int chosen = NONE;
            int least = FAR;
            for (int p = 0; p < g.plants; p++) {
                int toll = g.tolls[p * SITES + s];
                if (toll != NONE && dear[p] + toll < least) {
                    least = dear[p] + toll;
                    chosen = p;
                }
            }
            return chosen;
        }

        /** swap[q, p]: what it costs if q brings one in place of p, to the site where that costs least. */
        private void findSwaps(Program g) {
            Arrays.fill(swap, FAR);
            for (int p = 0; p < g.plants; p++) {
                for (int s = 0; s < g.sites; s++) {
                    int own = g.tolls[p * SITES + s];
                    for (int q = 0; q < g.plants && flow[p * SITES + s] > 0; q++) {
                        int toll = g.tolls[q * SITES + s];
                        int at = q * PLANTS + p;
                        if (q != p && toll != NONE && toll - own < swap[at]) {
                            swap[at] = toll - own;
                            swapSite[at] = s;
                        }
                    }
                }
            }
        }

        /** dear[p]: what it costs to have one more to give at p; helper[p]: who takes over from it then. */
        private void findDear() {
            for (int p = 0; p < PLANTS; p++) {
                dear[p] = left[p] > 0 ? 0 : FAR;
            }
            boolean moved = true;
            for (int i = 0; i < PLANTS && moved; i++) {
                moved = false;
                for (int q = 0; q < PLANTS; q++) {
                    for (int p = 0; p < PLANTS; p++) {
                        int cost = swap[q * PLANTS + p];
                        if (dear[q] < FAR && cost < FAR && dear[q] + cost < dear[p]) {
                            dear[p] = dear[q] + cost;
                            helper[p] = q;
                            moved = true;
                        }
                    }
                }
            }
        }

        private int bring(int giver, int s, int most) {
            int amount = most;
            int at = giver;
            for (int i = 0; i < PLANTS && helper[at] != NONE; i++) {
                int q = helper[at];
                amount = Math.min(amount, flow[at * SITES + swapSite[q * PLANTS + at]]);
                at = q;
            }
            amount = Math.min(amount, left[at]);
            left[at] -= amount;
            at = giver;
            for (int i = 0; i < PLANTS && helper[at] != NONE; i++) {
                int q = helper[at];
                int t = swapSite[q * PLANTS + at];
                flow[at * SITES + t] -= amount;
                flow[q * SITES + t] += amount;
                at = q;
            }
            flow[giver * SITES + s] += amount;
            return amount;
        }

        /** The ray or the point of a case by a plan, in u and v; whether it is a ray. */
        boolean findRates(Program g, int c, int plan) {
            int worst = lackAt(g, c, plan);
            Arrays.fill(u, 0);
            Arrays.fill(v, 0);
            if (worst > 0) {
                findRay(g, c, worst);
                return true;
            }
            costAt(g, c, plan);
            findPoint(g);
            return false;
        }

        /** The sites in all sets that lack most: each such set of plants bounds it from above. */
        private void findRay(Program g, int c, int worst) {
            for (int s = 0; s < g.sites; s++) {
                int mask = g.plantsOf(s);
                boolean inAll = g.needs[c * SITES + s] > 0;
                for (int set = 0; set < PLANT_SETS; set++) {
                    boolean lacksMost = loads[c * PLANT_SETS + set] - pools[set] == worst;
                    inAll = inAll && !(lacksMost && (mask & ~set) != 0);
                }
                if (inAll) {
                    v[s] = 1;
                    for (int p = 0; p < g.plants; p++) {
                        u[p] = (mask & (1 << p)) != 0 ? 1 : u[p];
                    }
                }
            }
        }

        /** u: what one more at a plant would save, which is the least rate that fits what is brought. */
        private void findPoint(Program g) {
            findSwaps(g);
            boolean moved = true;
            for (int i = 0; i <= PLANTS && moved; i++) {
                moved = false;
                for (int p = 0; p < PLANTS; p++) {
                    for (int q = 0; q < PLANTS; q++) {
                        int cost = swap[p * PLANTS + q];
                        if (cost < FAR && u[q] - cost > u[p]) {
                            u[p] = u[q] - cost;
                            moved = true;
                        }
                    }
                }
            }
            for (int s = 0; s < g.sites; s++) {
                v[s] = greatestRate(g, s);
            }
        }

        private int greatestRate(Program g, int s) {
            int least = FAR;
            for (int p = 0; p < g.plants; p++) {
                int toll = g.tolls[p * SITES + s];
                if (toll != NONE) {
                    least = Math.min(least, u[p] + toll);
                }
            }
            return least == FAR ? 0 : least;
        }
    }

    /** What is found of cases and plans, kept until the program is another one. */
    private static final class Book {
        final Freight freight = new Freight();
        final int[] prices = new int[CASES * PLANS];

        Book() {
            Arrays.fill(prices, UNKNOWN);
        }

        void forgetAll() {
            Arrays.fill(prices, UNKNOWN);
            for (int c = 0; c < CASES; c++) {
                freight.loadsKnown[c] = false;
            }
        }

        void forgetCase(int c) {
            for (int plan = 0; plan < PLANS; plan++) {
                prices[c * PLANS + plan] = UNKNOWN;
            }
            freight.loadsKnown[c] = false;
        }

        /** NONE, if the case fails. */
        int priceAt(Program g, int c, int plan) {
            int at = c * PLANS + plan;
            if (prices[at] == UNKNOWN) {
                prices[at] = freight.lackAt(g, c, plan) > 0 ? NONE : freight.costAt(g, c, plan);
            }
            return prices[at];
        }

        int totalAt(Program g, int plan) {
            int sum = g.feesOf(plan);
            for (int c = 0; c < g.cases; c++) {
                int least = priceAt(g, c, plan);
                if (least == NONE) {
                    return NONE;
                }
                sum += g.weights[c] * least;
            }
            return sum;
        }

        int cheapestPlan(Program g) {
            int chosen = NONE;
            int least = NONE;
            for (int plan = 0; plan < PLANS; plan++) {
                int sum = g.isPlan(plan) ? totalAt(g, plan) : NONE;
                if (sum != NONE && (chosen == NONE || sum < least)) {
                    chosen = plan;
                    least = sum;
                }
            }
            return chosen;
        }

        /** The least fees and price of one case alone, of all plans by which it does not fail. */
        int leastOfCase(Program g, int c) {
            int least = NONE;
            for (int plan = 0; plan < PLANS; plan++) {
                int alone = g.isPlan(plan) ? priceAt(g, c, plan) : NONE;
                if (alone != NONE) {
                    int sum = g.feesOf(plan) + alone;
                    least = least == NONE ? sum : Math.min(least, sum);
                }
            }
            return least;
        }
    }

    /** What the cuts tell of all plans at once, so that a new cut is told of each plan but once. */
    private static final class Bounds {
        boolean stale = true;
        final int[] reaches = new int[CASES * PLANS];
        final boolean[] barred = new boolean[PLANS];

        void freshen(Program g, Cuts cuts) {
            if (!stale) {
                return;
            }
            Arrays.fill(reaches, 0);
            for (int plan = 0; plan < PLANS; plan++) {
                barred[plan] = false;
            }
            for (int i = 0; i < cuts.size; i++) {
                include(g, cuts, i);
            }
            stale = false;
        }

        void include(Program g, Cuts cuts, int i) {
            int base = cuts.baseOf(g, i);
            int slope0 = cuts.slopeOf(g, i, 0);
            int slope1 = cuts.slopeOf(g, i, 1);
            int slope2 = cuts.slopeOf(g, i, 2);
            int slope3 = cuts.slopeOf(g, i, 3);
            boolean ray = cuts.rays[i] == 1;
            int row = cuts.cases[i] * PLANS;
            for (int d = 0; d <= g.mosts[3]; d++) {
                for (int c = 0; c <= g.mosts[2]; c++) {
                    for (int b = 0; b <= g.mosts[1]; b++) {
                        int value = base - d * slope3 - c * slope2 - b * slope1;
                        int plan = 64 * d + 16 * c + 4 * b;
                        for (int a = 0; a <= g.mosts[0]; a++) {
                            if (ray) {
                                barred[plan + a] = barred[plan + a] || value > 0;
                            } else if (value > reaches[row + plan + a]) {
                                reaches[row + plan + a] = value;
                            }
                            value -= slope0;
                        }
                    }
                }
            }
        }

        int floorAt(Program g, int plan) {
            if (barred[plan]) {
                return NONE;
            }
            int sum = g.feesOf(plan);
            for (int c = 0; c < g.cases; c++) {
                sum += g.weights[c] * reaches[c * PLANS + plan];
            }
            return sum;
        }

        int lowestPlan(Program g) {
            int chosen = NONE;
            int least = NONE;
            for (int plan = 0; plan < PLANS; plan++) {
                int sum = g.isPlan(plan) ? floorAt(g, plan) : NONE;
                if (sum != NONE && (chosen == NONE || sum < least)) {
                    chosen = plan;
                    least = sum;
                }
            }
            return chosen;
        }
    }

    /** Rounds in two steps: all is decided first, so that a refused round has touched nothing. */
    private static final class Engine {
        final Book book = new Book();
        final Bounds bounds = new Bounds();
        final int[] prices = new int[CASES];
        final int[] reaches = new int[CASES];
        final boolean[] picked = new boolean[CASES];
        final int[] ages = new int[CUTS_ON_PAPER];
        int master;
        int over;
        int lower;
        int upper;
        int best;
        boolean rises;

        /** Rounds till it is over, one would be refused, or so many are done: how many were done. */
        int run(Program g, Cuts cuts, Search s, int[] terms, int most) {
            int done = 0;
            for (int i = 0; i < most && s.over == 0; i++) {
                if (!decide(g, cuts, s, terms)) {
                    return done;
                }
                apply(g, cuts, s, terms[KEEP]);
                done++;
            }
            return done;
        }

        /** Whether the round can be; false: it is refused for want of room. */
        boolean decide(Program g, Cuts cuts, Search s, int[] terms) {
            bounds.freshen(g, cuts);
            master = bounds.lowestPlan(g);
            if (master == NONE) {
                over = NO_PLAN_LEFT;
                return true;
            }
            for (int c = 0; c < g.cases; c++) {
                prices[c] = book.priceAt(g, c, master);
                reaches[c] = bounds.reaches[c * PLANS + master];
            }
            findAges(g, cuts);
            moveBounds(g, s);
            over = judge(terms[TOLERANCE]);
            if (over != 0) {
                return true;
            }
            int coming = pick(g, terms[WAY]);
            return countStaying(cuts, terms[KEEP]) + coming <= terms[ROOM];
        }

        private void findAges(Program g, Cuts cuts) {
            for (int i = 0; i < cuts.size; i++) {
                int tight = cuts.rays[i] == 1 ? 0 : reaches[cuts.cases[i]];
                boolean isTight = cuts.valueAt(g, i, master) == tight;
                ages[i] = isTight ? 0 : Math.min(cuts.ages[i] + 1, AGE_MOST);
            }
        }

        private void moveBounds(Program g, Search s) {
            int least = bounds.floorAt(g, master);
            rises = s.lower == NONE || least > s.lower;
            lower = rises ? least : s.lower;
            int whole = masterTotal(g);
            boolean better = whole != NONE && (s.upper == NONE || whole < s.upper);
            upper = better ? whole : s.upper;
            best = better ? master : s.best;
        }

        private int masterTotal(Program g) {
            int sum = g.feesOf(master);
            for (int c = 0; c < g.cases; c++) {
                if (prices[c] == NONE) {
                    return NONE;
                }
                sum += g.weights[c] * prices[c];
            }
            return sum;
        }

        private int judge(int tolerance) {
            if (upper == NONE) {
                return 0;
            }
            if (lower >= upper) {
                return BOUNDS_MEET;
            }
            return gapBetween(lower, upper) <= (float) tolerance / 1000.0f ? GAP_SMALL : 0;
        }

        /** The cases that bring a cut: how many. */
        private int pick(Program g, int way) {
            int found = 0;
            for (int c = 0; c < g.cases; c++) {
                picked[c] = prices[c] == NONE || prices[c] > reaches[c];
                found += picked[c] ? 1 : 0;
            }
            if (way == 0 || found <= 1) {
                return found;
            }
            int one = worstCase(g);
            for (int c = 0; c < g.cases; c++) {
                picked[c] = c == one;
            }
            return 1;
        }

        private int worstCase(Program g) {
            int one = NONE;
            int worst = 0;
            for (int c = 0; c < g.cases; c++) {
                int missing = prices[c] == NONE ? book.freight.lackAt(g, c, master) : 0;
                if (missing > worst) {
                    worst = missing;
                    one = c;
                }
            }
            if (one != NONE) {
                return one;
            }
            for (int c = 0; c < g.cases; c++) {
                int above = g.weights[c] * (prices[c] - reaches[c]);
                if (above > worst) {
                    worst = above;
                    one = c;
                }
            }
            return one;
        }

        private int countStaying(Cuts cuts, int keep) {
            if (!rises || keep == 0) {
                return cuts.size;
            }
            int staying = 0;
            for (int i = 0; i < cuts.size; i++) {
                staying += ages[i] < keep ? 1 : 0;
            }
            return staying;
        }

        /** Does what was decided: how many cuts came. */
        int apply(Program g, Cuts cuts, Search s, int keep) {
            s.rounds++;
            s.over = over;
            s.master = master;
            if (master == NONE) {
                return 0;
            }
            s.lower = lower;
            s.upper = upper;
            s.best = best;
            System.arraycopy(ages, 0, cuts.ages, 0, cuts.size);
            if (over != 0) {
                return 0;
            }
            if (rises && keep != 0) {
                int went = cuts.dropAged(keep);
                s.gone += went;
                bounds.stale = bounds.stale || went > 0;
            }
            int came = 0;
            for (int c = 0; c < g.cases; c++) {
                if (picked[c]) {
                    boolean ray = book.freight.findRates(g, c, master);
                    cuts.append(c, ray ? 1 : 0, book.freight.u, book.freight.v);
                    came++;
                    if (!bounds.stale) {
                        bounds.include(g, cuts, cuts.size - 1);
                    }
                }
            }
            return came;
        }
    }

    /** The tape, and the reading of it token by token. */
    private static final class Tape {
        static final int MOST = 400;
        static final int FED = 20;
        static final int AT_END = 0;
        static final int WORD = 1;
        static final int NUMBER = 2;
        static final int SIGN = 3;
        static final int TOO_MUCH = 1000000;

        final byte[] bytes = new byte[MOST];
        int length;
        int fault = NONE;
        int start;
        int stop;
        int kind;

        boolean hasRoomForFive() {
            return length + FED <= MOST;
        }

        void append(int four) {
            for (int i = 0; i < 4 && length < MOST; i++) {
                bytes[length] = (byte) (four >> (24 - 8 * i));
                length++;
            }
        }

        /** The text as a program: how many lines; NONE and a fault, if it can't be read. */
        int parse(Program g) {
            g.wipe();
            stop = 0;
            fault = NONE;
            step();
            int lines = 0;
            for (int i = 0; i < MOST; i++) {
                if (!takeLine(g)) {
                    fault = start;
                    return NONE;
                }
                lines++;
                if (kind == AT_END) {
                    return lines;
                }
                if (kind != SIGN || bytes[start] != ';') {
                    fault = start;
                    return NONE;
                }
                step();
            }
            fault = start;
            return NONE;
        }

        private void step() {
            start = stop;
            while (start < length && bytes[start] == ' ') {
                start++;
            }
            stop = start;
            kind = AT_END;
            if (start < length) {
                kind = kindOf(bytes[start]);
                stop++;
                while (kind != SIGN && stop < length && kindOf(bytes[stop]) == kind) {
                    stop++;
                }
            }
        }

        private static int kindOf(int sign) {
            if (sign >= 'a' && sign <= 'z') {
                return WORD;
            }
            return sign >= '0' && sign <= '9' ? NUMBER : SIGN;
        }

        private boolean isWord(String word) {
            if (kind != WORD || stop - start != word.length()) {
                return false;
            }
            for (int i = 0; i < word.length(); i++) {
                if (bytes[start + i] != word.charAt(i)) {
                    return false;
                }
            }
            return true;
        }

        /** The number of the token, NONE if it is not one from 0 or 1 up to the highest. */
        private int peekNumber(int lowest, int highest) {
            if (kind != NUMBER) {
                return NONE;
            }
            int value = 0;
            for (int i = start; i < stop; i++) {
                value = Math.min(value * 10 + bytes[i] - '0', TOO_MUCH);
            }
            return value < lowest || value > highest ? NONE : value;
        }

        private int takeNumber(int lowest, int highest) {
            int value = peekNumber(lowest, highest);
            if (value != NONE) {
                step();
            }
            return value;
        }

        /** False: the token where it stands can't go on. */
        private boolean takeLine(Program g) {
            if (isWord("plant")) {
                return takePlant(g);
            }
            if (isWord("site")) {
                return takeSite(g);
            }
            if (isWord("road")) {
                return takeRoad(g);
            }
            return isWord("case") && takeCase(g);
        }

        private boolean takePlant(Program g) {
            if (g.plants >= PLANTS) {
                return false;
            }
            step();
            int fee = takeNumber(0, FEE_MOST);
            int size = fee == NONE ? NONE : takeNumber(1, SIZE_MOST);
            int most = size == NONE ? NONE : takeNumber(0, UNITS_MOST);
            if (most == NONE) {
                return false;
            }
            g.addPlant(fee, size, most);
            return true;
        }

        private boolean takeSite(Program g) {
            if (g.sites >= SITES) {
                return false;
            }
            step();
            g.sites++;
            return true;
        }

        private boolean takeRoad(Program g) {
            step();
            int p = takeNumber(0, g.plants - 1);
            int s = p == NONE ? NONE : peekNumber(0, g.sites - 1);
            if (s == NONE || g.tolls[p * SITES + s] != NONE) {
                return false;
            }
            step();
            int toll = takeNumber(0, TOLL_MOST);
            g.tolls[p * SITES + s] = toll;
            return toll != NONE;
        }

        private boolean takeCase(Program g) {
            if (g.cases >= CASES) {
                return false;
            }
            step();
            int weight = takeNumber(1, WEIGHT_MOST);
            if (weight == NONE) {
                return false;
            }
            g.addCase(weight);
            for (int s = 0; s < g.sites && kind == NUMBER; s++) {
                int value = takeNumber(0, NEED_MOST);
                if (value == NONE) {
                    return false;
                }
                g.needs[(g.cases - 1) * SITES + s] = value;
            }
            return true;
        }
    }
}
