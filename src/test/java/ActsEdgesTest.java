/**
 * Promises 1 to 16 once more, by those of their sentences that name an edge: too small, too large,
 * empty, full, refused. Each part bears its promise and the sentence. The answers were found by hand.
 *
 * <p>PAIR goes 4 rounds (plans 0, 5, 9, 9) with 3 cuts: a ray, two points; LEAST is 29 by plan 9.
 * FOUR goes 3 rounds (plans 0, 1, 1): four rays, four points, then it is over.
 * BARE has no road: a ray, then no plan is left.
 */
public final class ActsEdgesTest {
    private static final int NO = SplitProgram.NONE;
    private static final int MIN = Integer.MIN_VALUE;
    private static final int MAX = Integer.MAX_VALUE;
    private static final String PAIR =
        "plant 5 4 3;plant 1 3 2;site;site;road 0 0 1;road 0 1 6;road 1 1 2;case 2 3 4";
    private static final String FOUR =
        "plant 1 9 3;site;site;site;site;road 0 0 1;road 0 1 2;road 0 2 3;road 0 3 4;"
        + "case 1 9;case 1 0 9;case 1 0 0 9;case 1 0 0 0 9";
    private static final String BARE = "plant 0 5 3;site;case 1 1";
    private static final String FULL =
        "plant 1 1 1;plant 1 1 1;plant 1 1 1;plant 1 1 1;site;site;site;site;site;site;case 1;case 1;case 1;case 1";
    private static final Due due = new Due();

    public static void main(String[] args) {
        newObject();
        terms();
        overStays();
        feed();
        end();
        read();
        readRefused();
        fault();
        plant();
        site();
        road();
        scene();
        need();
        change();
        changed();
        round();
        roundRefused();
        go();
        goRefused();
        clear();
        undo();
        undoKept();
        undoTakesBack();
        due.close();
    }

    private static SplitProgram with(String text, int rounds) {
        SplitProgram x = Due.from(text);
        if (rounds > 0) {
            due.is("go(" + rounds + ") of " + text, x.go(rounds), rounds);
        }
        return x;
    }

    private static void newObject() {
        due.part("Promise 1, a new object: \"No plant, no site, no case.\"");
        SplitProgram x = new SplitProgram();
        for (int what = 0; what <= 2; what++) {
            due.is("count(" + what + ")", x.count(what), 0);
        }
        due.is("no plant", x.of(0, 0), NO);
        due.is("no case", x.told(0, 0), NO);
        due.is("the plan without any unit alone", x.count(4), 1);
        due.is("its total", x.total(0), 0);
        due.is("no other plan", x.total(1), NO);
        due.is("no cut", x.now(6), 0);
        due.part("Promise 1, a new object: nothing is shared with another one");
        x.plant(1, 2, 3);
        x.terms(3, 4);
        x.terms(9, 9);
        x.image(0);
        x.feed(1, 2, 3, 4, 5);
        SplitProgram y = new SplitProgram();
        due.is("count(0)", y.count(0), 0);
        due.is("count(6)", y.count(6), 0);
        due.is("count(7)", y.count(7), 0);
        due.is("count(16)", y.count(16), 40);
        due.is("status()", y.status(), 0);
        due.is("back(0)", y.back(0), -2);
    }

    private static void terms() {
        int[] low = {0, 0, 0, 4};
        int[] high = {1, 9, 1000, 40};
        int[] first = {0, 0, 0, 40};
        for (int what = 0; what < 4; what++) {
            int term = what;
            due.part("Promise 2, terms: \"A TERM: what it was.\" TERM " + what);
            SplitProgram x = new SplitProgram();
            due.is("at first", x.count(13 + what), first[what]);
            due.taken("the lowest", x, first[what], y -> y.terms(term, low[term]));
            due.taken("the highest", x, low[what], y -> y.terms(term, high[term]));
            due.taken("the same again, which is not refused", x, high[what], y -> y.terms(term, high[term]));
            due.part("Promise 2, terms: \"-1\" TERM " + what);
            due.eachRefused("terms(" + what + ", *)", x, -1, new int[] {low[what] - 1, high[what] + 1, MIN, MAX},
                (y, value) -> y.terms(term, value));
            due.is("it stays", x.count(13 + what), high[what]);
        }
        due.part("Promise 2, terms: \"-1\" no such TERM");
        SplitProgram x = new SplitProgram();
        due.eachRefused("terms(*, 4)", x, -1, new int[] {-1, 4, MIN, MAX}, (y, what) -> y.terms(what, 4));
    }

    private static void overStays() {
        due.part("Promise 2, terms: \"(What is over stays so.)\"");
        SplitProgram met = with(PAIR, 4);
        met.terms(0, 1);
        met.terms(1, 1);
        met.terms(2, 1000);
        met.terms(3, 4);
        due.is("over by bounds that meet", met.now(0), 1);
        due.is("round()", met.round(), -3);
        SplitProgram small = Due.from(PAIR);
        small.terms(2, 1000);
        small.go(99);
        due.is("over by a small gap", small.now(0), 3);
        small.terms(2, 0);
        due.is("though the gap is not small any more", small.now(0), 3);
        due.is("go(1)", small.go(1), -3);
        SplitProgram bare = with(BARE, 2);
        bare.terms(2, 1000);
        due.is("over without a plan", bare.now(0), 2);
        due.part("Promise 2, terms: no CHANGED behind it, nothing to undo");
        SplitProgram x = with(PAIR, 3);
        x.terms(0, 1);
        due.is("LOWER", x.now(1), 13);
        due.is("AGE", x.cut(0, 2), 1);
        due.is("rounds", x.now(5), 3);
        due.is("count(5): read() and go()", x.count(5), 2);
        due.part("Promise 2, terms: ROOM for fewer CUTS than there are");
        SplitProgram full = with(FOUR, 2);
        full.terms(3, 4);
        due.is("the CUTS stay", full.now(6), 8);
        due.is("a ROUND by which no CUT comes", full.round(), 0);
        due.is("over", full.now(0), 1);
    }

    private static void feed() {
        due.part("Promise 3, feed: \"four of each number, the highest first: how many it has\"");
        SplitProgram x = new SplitProgram();
        due.is("plant 12 3 1;site", x.feed(0x706c616e, 0x74203132, 0x20332031, 0x3b736974, 0x65202020), 20);
        due.is("read()", x.read(), 2);
        due.is("FEE, SIZE, MOST", x.of(0, 0) * 100 + x.of(0, 1) * 10 + x.of(0, 2), 1231);
        due.part("Promise 3, feed: \"Twenty bytes come behind the TAPE\"");
        x.feed(0x73697465, 0x3b000000, 0, 0, 0);
        due.is("end(5)", x.end(5), 5);
        due.is("behind these five", x.feed(0x73697465, 0x20202020, 0x20202020, 0x20202020, 0x20202020), 25);
        due.is("read()", x.read(), 2);
        due.part("Promise 3, feed: \"NONE, if there would be more than 400\"");
        SplitProgram y = new SplitProgram();
        y.terms(9, 9);
        for (int n = 1; n <= 20; n++) {
            due.is("feed " + n, y.feed(0x20202020, 0x20202020, 0x20202020, 0x20202020, 0x20202020), 20 * n);
        }
        due.is("400 bytes: full", y.feed(-1, -1, -1, -1, -1), NO);
        for (int n = 399; n > 380; n--) {
            y.end(n);
            due.is("feed behind " + n, y.feed(-1, -1, -1, -1, -1), NO);
            due.is("as many as there were", y.count(6), n);
        }
        y.end(380);
        due.is("feed behind 380", y.feed(0x20202020, 0x20202020, 0x20202020, 0x20202020, 0x20202073), 400);
        due.is("nothing of what had no room is there", y.read(), -6);
        due.is("fault(): the last byte", y.fault(), 399);
        due.part("Promise 3, feed: NONE is not REFUSED");
        due.is("count(7): terms(9, 9) alone", y.count(7), 1);
        due.is("count(11)", y.count(11), 0);
        due.is("count(12): read() alone", y.count(12), 1);
        due.part("Promise 3, feed: bytes of numbers below 0");
        y.feed(0x73697465, 0xffffffff, MIN, MAX, 0);
        due.is("read()", y.read(), -6);
        due.is("fault()", y.fault(), 4);
    }

    private static void end() {
        due.part("Promise 4, end: \"The TAPE has its first n bytes alone: n.\"");
        SplitProgram x = new SplitProgram();
        due.is("end(0) of an empty one", x.end(0), 0);
        x.feed(0x73697465, 0x3b3b3b3b, 0x3b3b3b3b, 0x3b3b3b3b, 0x3b3b3b3b);
        due.is("all of it", x.end(20), 20);
        due.is("the first 4", x.end(4), 4);
        due.is("count(6)", x.count(6), 4);
        due.is("the rest is gone", x.end(5), NO);
        due.is("read()", x.read(), 1);
        due.part("Promise 4, end: \"NONE, if it has not so many, or n is below 0.\"");
        due.is("end(1) of an empty one", x.end(1), NO);
        x.feed(0, 0, 0, 0, 0);
        x.terms(9, 9);
        for (int n : new int[] {21, 400, 401, MAX, -1, MIN}) {
            due.is("end(" + n + ")", x.end(n), NO);
        }
        due.is("count(6)", x.count(6), 20);
        due.is("not REFUSED: count(7)", x.count(7), 1);
        due.is("status() is that of terms(9, 9)", x.status(), -1);
        due.is("end(0)", x.end(0), 0);
        due.is("count(6)", x.count(6), 0);
    }

    private static void read() {
        due.part("Promise 5, read: \"in place of all there was\"");
        SplitProgram x = with(PAIR, 2);
        Due.put(x, "plant 7 1 1;site;case 3");
        due.taken("read(): how many LINES", x, 3, SplitProgram::read);
        due.is("plants, sites, cases, roads", x.count(0) * 1000 + x.count(1) * 100 + x.count(2) * 10 + x.count(3), 1110);
        due.is("no ROAD of the earlier", x.of(0, 3), NO);
        due.is("no NEED of the earlier", x.told(0, 1), 0);
        due.is("no PLAN of the earlier", x.total(4), NO);
        due.is("PLANS", x.count(4), 2);
        x.site();
        x.plant(1, 1, 1);
        x.scene(1);
        due.is("nor to what comes later", x.of(1, 4), NO);
        due.is("nor of what comes later", x.told(1, 2), 0);
        due.part("Promise 5, read: \"which is empty then\"");
        due.is("count(6)", x.count(6), 0);
        due.part("Promise 5, read: \"(TERMS, IMAGES stay)\"");
        SplitProgram y = with(PAIR, 1);
        y.terms(0, 1);
        y.terms(1, 2);
        y.terms(2, 3);
        y.terms(3, 4);
        y.image(0);
        Due.put(y, "site");
        due.is("read()", y.read(), 1);
        for (int what = 13; what <= 16; what++) {
            due.is("count(" + what + ")", y.count(what), what - 12);
        }
        due.is("back(0)", y.back(0), 0);
        due.is("plants", y.count(0), 2);
        due.is("rounds", y.now(5), 1);
        due.part("Promise 5, read: the fullest program, the fullest TAPE");
        StringBuilder full = new StringBuilder(FULL);
        for (int at = 0; at < 24; at++) {
            full.append(";road ").append(at / 6).append(' ').append(at % 6).append(' ').append(at);
        }
        full.append(" ".repeat(400 - full.length()));
        SplitProgram z = new SplitProgram();
        Due.put(z, full.toString());
        due.is("count(6)", z.count(6), 400);
        due.is("read()", z.read(), 38);
        due.is("roads", z.count(3), 24);
        due.is("the last", z.of(3, 8), 23);
    }

    private static void readRefused() {
        due.part("Promise 5, read: \"-6\" changes nothing else");
        SplitProgram x = with(PAIR, 3);
        Due.put(x, "?");
        due.refused("read()", x, -6, SplitProgram::read);
        Due.put(x, "?");
        x.end(1);
        long[] before = Look.at(x);
        before[6] = 0;
        due.refused("read()", x, -6, SplitProgram::read);
        due.same("all but the TAPE", Look.at(x), before);
        due.is("undo(): the go(), as no read() is kept", x.undo(), 8);
        due.part("Promise 5, read: \"-6\" the lines ahead of the FAULT do not count");
        Due.put(x, "plant 9 9 3;site;case 1;site x");
        due.is("read()", x.read(), -6);
        due.is("plants", x.count(0), 2);
        due.is("FEE", x.of(0, 0), 5);
        due.is("the TAPE is empty", x.count(6), 0);
        due.part("Promise 5, read: \"(blanks alone: FAULT at the end)\"");
        for (int n : new int[] {0, 1, 2, 20, 399, 400}) {
            SplitProgram y = new SplitProgram();
            Due.put(y, " ".repeat(n));
            due.refused("read() of " + n + " blanks", y, -6, SplitProgram::read);
            due.is("fault()", y.fault(), n);
        }
    }

    private static void fault() {
        due.part("Promise 6, fault: \"NONE without one, ahead of any\"");
        SplitProgram x = new SplitProgram();
        due.is("ahead of any", x.fault(), NO);
        Due.put(x, "site");
        due.is("ahead of any, with a TEXT on the TAPE", x.fault(), NO);
        x.read();
        due.is("without one", x.fault(), NO);
        due.part("Promise 6, fault: \"FAULT of the latest read()\"");
        Due.put(x, "site;sit");
        x.read();
        due.is("fault()", x.fault(), 5);
        x.image(0);
        Due.put(x, "site;site;x");
        x.read();
        due.is("another", x.fault(), 10);
        x.end(0);
        x.clear();
        x.undo();
        x.undo();
        due.is("undo() leaves it", x.fault(), 10);
        x.back(0);
        due.is("back() leaves it", x.fault(), 10);
        Due.put(x, "site;site;site");
        due.is("feed() and end() leave it", x.fault(), 10);
        x.read();
        due.is("without one again", x.fault(), NO);
        x.undo();
        due.is("undo() of a read() leaves it", x.fault(), NO);
    }

    private static void plant() {
        due.part("Promise 7, plant: \"-1\"");
        SplitProgram x = new SplitProgram();
        due.eachRefused("plant(*, 1, 0)", x, -1, new int[] {-1, 1000, MIN, MAX}, (y, fee) -> y.plant(fee, 1, 0));
        due.eachRefused("plant(0, *, 0)", x, -1, new int[] {0, -1, 21, MIN, MAX}, (y, size) -> y.plant(0, size, 0));
        due.eachRefused("plant(0, 1, *)", x, -1, new int[] {-1, 4, MIN, MAX}, (y, most) -> y.plant(0, 1, most));
        due.part("Promise 7, plant: \"One more PLANT: its number.\"");
        due.taken("the least of all", x, 0, y -> y.plant(0, 1, 0));
        due.taken("the most of all", x, 1, y -> y.plant(999, 20, 3));
        due.is("FEE", x.of(1, 0), 999);
        due.is("SIZE", x.of(1, 1), 20);
        due.is("MOST", x.of(1, 2), 3);
        due.taken("the third", x, 2, y -> y.plant(1, 1, 1));
        due.taken("the fourth", x, 3, y -> y.plant(1, 1, 1));
        due.part("Promise 7, plant: \"-5\"");
        due.refusedWithoutTrace("the fifth", x, -5, y -> y.plant(1, 1, 1));
        due.part("Promise 7, plant: -1 is the first of -1, -5");
        due.refused("a fifth that can't be", x, -1, y -> y.plant(1, 0, 1));
        due.part("Promise 7, plant: a number that was undone comes again, without its ROADS");
        x.site();
        x.road(3, 0, 5);
        x.undo();
        x.undo();
        x.undo();
        due.is("count(0)", x.count(0), 3);
        due.is("plant(2, 2, 2)", x.plant(2, 2, 2), 3);
        x.site();
        due.is("no ROAD", x.of(3, 3), NO);
    }

    private static void site() {
        due.part("Promise 8, site: \"One more SITE: its number.\"");
        SplitProgram x = new SplitProgram();
        x.scene(1);
        x.plant(1, 1, 1);
        for (int s = 0; s < 6; s++) {
            due.taken("site()", x, s, SplitProgram::site);
            due.is("its NEED", x.told(0, 1 + s), 0);
            due.is("no ROAD to it", x.of(0, 3 + s), NO);
        }
        due.part("Promise 8, site: \"-5\"");
        due.refusedWithoutTrace("the seventh", x, -5, SplitProgram::site);
        due.part("Promise 8, site: a number that was undone comes again, without NEED and ROAD");
        x.need(0, 5, 7);
        x.road(0, 5, 7);
        x.undo();
        x.undo();
        x.undo();
        due.is("count(1)", x.count(1), 5);
        due.is("site()", x.site(), 5);
        due.is("NEED", x.told(0, 6), 0);
        due.is("ROAD", x.of(0, 8), NO);
    }

    private static void road() {
        due.part("Promise 9, road: \"what its TOLL was, and 1 (0: there was none)\"");
        SplitProgram x = Due.from("plant 1 1 1;site");
        due.taken("there was none", x, 0, y -> y.road(0, 0, 0));
        due.taken("it was 0", x, 1, y -> y.road(0, 0, 99));
        due.taken("it was 99", x, 100, y -> y.road(0, 0, 98));
        due.part("Promise 9, road: \"(toll NONE: none any more)\"");
        due.taken("it was 98", x, 99, y -> y.road(0, 0, NO));
        due.is("of(0, 3)", x.of(0, 3), NO);
        due.is("count(3)", x.count(3), 0);
        due.part("Promise 9, road: \"-4 it is so\"");
        due.refusedWithoutTrace("none already", x, -4, y -> y.road(0, 0, NO));
        x.road(0, 0, 5);
        due.refusedWithoutTrace("that TOLL already", x, -4, y -> y.road(0, 0, 5));
        due.part("Promise 9, road: \"-1\"");
        due.eachRefused("road(0, 0, *)", x, -1, new int[] {-2, 100, MIN, MAX}, (y, toll) -> y.road(0, 0, toll));
        due.part("Promise 9, road: \"-2\"");
        SplitProgram z = Due.from("plant 1 1 1;site;road 0 0 5");
        due.eachRefused("road(*, 0, 5)", z, -2, new int[] {-1, 1, 4, MIN, MAX}, (y, none) -> y.road(none, 0, 5));
        due.eachRefused("road(0, *, 5)", z, -2, new int[] {-1, 1, 6, MIN, MAX}, (y, none) -> y.road(0, none, 5));
        due.part("Promise 9, road: the first of -1, -2, -4");
        due.refused("-1 ahead of -2", z, -1, y -> y.road(1, 1, 100));
        due.refused("-2 ahead of -4, as there is no ROAD", z, -2, y -> y.road(1, 0, NO));
    }

    private static void scene() {
        due.part("Promise 10, scene: \"-1\"");
        SplitProgram x = new SplitProgram();
        due.eachRefused("scene(*)", x, -1, new int[] {0, -1, 10, MIN, MAX}, (y, weight) -> y.scene(weight));
        due.part("Promise 10, scene: \"One more CASE: its number.\"");
        int[] weights = {1, 9, 5, 2};
        for (int c = 0; c < 4; c++) {
            int weight = weights[c];
            due.taken("scene(" + weight + ")", x, c, y -> y.scene(weight));
            due.is("WEIGHT", x.told(c, 0), weight);
        }
        due.part("Promise 10, scene: \"-5\"");
        due.refusedWithoutTrace("the fifth", x, -5, y -> y.scene(1));
        due.part("Promise 10, scene: -1 is the first of -1, -5");
        due.refused("a fifth that can't be", x, -1, y -> y.scene(0));
        due.part("Promise 10, scene: a number that was undone comes again, without NEEDS");
        SplitProgram y = new SplitProgram();
        y.site();
        y.scene(3);
        y.need(0, 0, 9);
        y.undo();
        y.undo();
        due.is("scene(4)", y.scene(4), 0);
        due.is("NEED", y.told(0, 1), 0);
    }

    private static void need() {
        due.part("Promise 11, need: \"A NEED: what it was.\"");
        SplitProgram x = Due.from("site;case 1");
        due.taken("the most", x, 0, y -> y.need(0, 0, 20));
        due.taken("the least", x, 20, y -> y.need(0, 0, 0));
        due.part("Promise 11, need: \"-1\"");
        due.eachRefused("need(0, 0, *)", x, -1, new int[] {-1, 21, MIN, MAX}, (y, value) -> y.need(0, 0, value));
        due.part("Promise 11, need: \"-2\"");
        due.eachRefused("need(*, 0, 5)", x, -2, new int[] {-1, 1, 4, MIN, MAX}, (y, none) -> y.need(none, 0, 5));
        due.eachRefused("need(0, *, 5)", x, -2, new int[] {-1, 1, 6, MIN, MAX}, (y, none) -> y.need(0, none, 5));
        due.part("Promise 11, need: \"-4 it is so\"");
        due.refusedWithoutTrace("0 already", x, -4, y -> y.need(0, 0, 0));
        x.need(0, 0, 20);
        due.refusedWithoutTrace("20 already", x, -4, y -> y.need(0, 0, 20));
        due.part("Promise 11, need: the first of -1, -2, -4");
        due.refused("-1 ahead of -2", x, -1, y -> y.need(1, 1, 21));
        due.refused("-2 ahead of -4, as such a SITE needs 0", x, -2, y -> y.need(0, 1, 0));
    }

    private static void change() {
        int[] low = {0, 1, 0};
        int[] high = {999, 20, 3};
        for (int k = 0; k < 3; k++) {
            int what = k;
            due.part("Promise 12, change: \"what it was\" what " + what);
            SplitProgram x = Due.from("plant 5 5 2");
            due.taken("the most", x, what == 2 ? 2 : 5, y -> y.change(0, what, high[what]));
            due.taken("the least", x, high[what], y -> y.change(0, what, low[what]));
            due.part("Promise 12, change: \"-4 it is so\" what " + what);
            due.refusedWithoutTrace("the same", x, -4, y -> y.change(0, what, low[what]));
            due.part("Promise 12, change: \"-1\" what " + what);
            due.eachRefused("change(0, " + what + ", *)", x, -1, new int[] {low[what] - 1, high[what] + 1, MIN, MAX},
                (y, value) -> y.change(0, what, value));
        }
        due.part("Promise 12, change: \"-1\" another what");
        SplitProgram x = Due.from("plant 5 5 2");
        due.eachRefused("change(0, *, 1)", x, -1, new int[] {-1, 3, MIN, MAX}, (y, what) -> y.change(0, what, 1));
        due.part("Promise 12, change: \"-2\"");
        due.eachRefused("change(*, 0, 5)", x, -2, new int[] {-1, 1, 4, MIN, MAX}, (y, none) -> y.change(none, 0, 5));
        due.part("Promise 12, change: -1 is the first of -1, -2");
        due.refused("of no PLANT a FEE that can't be", x, -1, y -> y.change(1, 0, 1000));
        due.refused("of no PLANT a what that can't be", x, -1, y -> y.change(1, 3, 1));
    }

    private static void changed() {
        Due.Act[] acts = {
            y -> y.plant(1, 1, 1), SplitProgram::site, y -> y.road(0, 1, 7), y -> y.scene(1), y -> y.need(0, 0, 2),
            y -> y.change(0, 0, 6)};
        String[] names = {"7, plant", "8, site", "9, road", "10, scene", "11, need", "12, change"};
        for (int k = 0; k < acts.length; k++) {
            due.part("Promise " + names[k] + ": CHANGED");
            SplitProgram x = with(PAIR, 4);
            due.is("over ahead of it", x.now(0), 1);
            due.is("AGE ahead of it", x.cut(0, 2), 2);
            acts[k].on(x);
            due.is("not over", x.now(0), 0);
            for (int what = 1; what <= 4; what++) {
                due.is("none: now(" + what + ")", x.now(what), NO);
            }
            due.is("no ROUND is done", x.now(5), 0);
            due.is("gap()", x.gap(), NO);
            due.is("CUTS that HOLD stay", x.now(6), 3);
            for (int i = 0; i < 3; i++) {
                due.is("AGE of CUT " + i, x.cut(i, 2), 0);
            }
            due.is("a ROUND can be gone again", x.round() >= 0 ? 1 : 0, 1);
        }
        due.part("Promise 5, read: CHANGED, and no CUT stays");
        SplitProgram x = with(PAIR, 4);
        Due.put(x, PAIR);
        due.is("read() of the same", x.read(), 8);
        int[] now = {0, NO, NO, NO, NO, 0, 0, 0, 0};
        for (int what = 0; what < now.length; what++) {
            due.is("now(" + what + ")", x.now(what), now[what]);
        }
        due.part("CHANGED: what went by AGE is forgotten (promise 19)");
        SplitProgram z = Due.from(PAIR);
        z.terms(1, 1);
        z.go(4);
        due.is("two went", z.now(8), 2);
        z.site();
        due.is("none since", z.now(8), 0);
    }

    private static void round() {
        due.part("Promise 13, round: \"how many CUTS came\"");
        SplitProgram x = Due.from(FOUR);
        due.taken("four rays", x, 4, SplitProgram::round);
        due.taken("four points", x, 4, SplitProgram::round);
        due.part("Promise 13, round: \"(0: it is over)\" 1");
        due.taken("bounds meet", x, 0, SplitProgram::round);
        due.is("now(0)", x.now(0), 1);
        due.part("Promise 13, round: \"-3\" behind 1");
        due.refusedWithoutTrace("round()", x, -3, SplitProgram::round);
        due.part("Promise 13, round: \"(0: it is over)\" 2");
        SplitProgram bare = with(BARE, 1);
        due.taken("no PLAN is left", bare, 0, SplitProgram::round);
        due.is("now(0)", bare.now(0), 2);
        due.part("Promise 13, round: \"-3\" behind 2");
        due.refusedWithoutTrace("round()", bare, -3, SplitProgram::round);
        due.part("Promise 13, round: \"(0: it is over)\" 3");
        SplitProgram small = with(PAIR, 1);
        small.terms(2, 1000);
        due.taken("the gap is small", small, 0, SplitProgram::round);
        due.is("now(0)", small.now(0), 3);
        due.part("Promise 13, round: \"-3\" behind 3");
        due.refusedWithoutTrace("round()", small, -3, SplitProgram::round);
        due.part("Promise 13, round: without any PLANT, SITE, CASE");
        SplitProgram empty = new SplitProgram();
        due.taken("bounds meet at 0", empty, 0, SplitProgram::round);
        due.is("over", empty.now(0), 1);
        due.is("LOWER, UPPER, BEST, MASTER", empty.now(1) + empty.now(2) + empty.now(3) + empty.now(4), 0);
    }

    private static void roundRefused() {
        due.part("Promise 13, round: \"-5\" and as many CUTS as ROOM");
        for (int room = 4; room <= 9; room++) {
            SplitProgram x = Due.from(FOUR);
            x.terms(3, room);
            due.taken("four rays in ROOM " + room, x, 4, SplitProgram::round);
            if (room < 8) {
                due.refusedWithoutTrace("four points in ROOM " + room, x, -5, SplitProgram::round);
            } else {
                due.taken("four points in ROOM " + room, x, 4, SplitProgram::round);
            }
        }
        due.part("Promise 13, round: CUTS that go make ROOM");
        SplitProgram x = Due.from(FOUR);
        x.change(0, 1, 10);
        x.terms(3, 4);
        x.terms(1, 1);
        x.round();
        due.taken("four go, four come", x, 4, SplitProgram::round);
        due.is("CUTS", x.now(6), 4);
        due.is("RAYS", x.now(7), 0);
        due.is("went", x.now(8), 4);
        due.part("Promise 13, round: \"-5\" brings back what would have gone");
        SplitProgram y = Due.from(FOUR);
        for (int c = 1; c < 4; c++) {
            y.need(c, c, 10);
        }
        y.change(0, 1, 10);
        y.terms(3, 6);
        y.terms(1, 1);
        y.round();
        due.refusedWithoutTrace("one goes, four come, seven", y, -5, SplitProgram::round);
        due.is("none went", y.now(8), 0);
        y.terms(3, 7);
        due.taken("ROOM 7", y, 4, SplitProgram::round);
        due.is("went", y.now(8), 1);
        due.is("CUTS", y.now(6), 7);
        due.part("Promise 13, round: \"-5\" counts those that stay, the first too");
        SplitProgram first = Due.from(FOUR);
        for (int c = 0; c < 3; c++) {
            first.need(c, c, 10);
        }
        first.change(0, 1, 10);
        first.terms(3, 6);
        first.terms(1, 1);
        first.round();
        due.refusedWithoutTrace("the last goes, four come, seven", first, -5, SplitProgram::round);
        first.terms(3, 7);
        due.taken("ROOM 7", first, 4, SplitProgram::round);
        due.part("Promise 13, round: \"-5\" counts those that come, not all CASES");
        SplitProgram some = Due.from(FOUR);
        some.need(1, 1, 0);
        some.terms(3, 6);
        due.taken("three RAYS", some, 3, SplitProgram::round);
        due.taken("three POINTS in ROOM 6", some, 3, SplitProgram::round);
        due.part("Promise 13, round: -3 is the first of -3, -5");
        SplitProgram z = with(FOUR, 3);
        z.terms(3, 4);
        due.refused("round()", z, -3, SplitProgram::round);
    }

    private static void go() {
        due.part("Promise 14, go: \"-1\"");
        SplitProgram x = Due.from(PAIR);
        due.eachRefused("go(*)", x, -1, new int[] {0, -1, 100, MIN, MAX}, (y, n) -> y.go(n));
        due.part("Promise 14, go: \"n (1 .. 99) at most\"");
        due.taken("go(1)", x, 1, y -> y.go(1));
        due.is("rounds", x.now(5), 1);
        due.is("not over", x.now(0), 0);
        due.taken("go(2)", x, 2, y -> y.go(2));
        due.is("not over", x.now(0), 0);
        due.part("Promise 14, go: \"ROUNDS till it is over\", \"how many were done\"");
        due.taken("go(99)", x, 1, y -> y.go(99));
        due.is("over", x.now(0), 1);
        due.taken("the ROUND that finds no PLAN is one", Due.from(BARE), 2, y -> y.go(99));
        due.taken("as many as are needed", Due.from(PAIR), 4, y -> y.go(4));
        due.part("Promise 14, go: \"-3\"");
        due.refusedWithoutTrace("go(1)", x, -3, y -> y.go(1));
        due.refused("go(99)", x, -3, y -> y.go(99));
        due.part("Promise 14, go: -1 is the first of -1, -3");
        due.refused("go(0)", x, -1, y -> y.go(0));
    }

    private static void goRefused() {
        due.part("Promise 14, go: \"all as it was ahead of that one, those ahead of it are done\"");
        SplitProgram x = Due.from(FOUR);
        x.terms(3, 7);
        due.taken("go(99)", x, 1, y -> y.go(99));
        due.is("rounds", x.now(5), 1);
        due.is("MASTER", x.now(4), 0);
        due.is("CUTS", x.now(6), 4);
        due.is("UPPER", x.now(2), NO);
        due.is("AGE", x.cut(0, 2), 0);
        due.is("count(11): the call itself was not REFUSED", x.count(11), 0);
        due.part("Promise 14, go: \"-5 (the first one was)\"");
        due.refusedWithoutTrace("go(99)", x, -5, y -> y.go(99));
        due.part("Promise 14, go: -3 is the first of -3, -5");
        SplitProgram z = with(FOUR, 3);
        z.terms(3, 4);
        due.refused("go(1)", z, -3, y -> y.go(1));
        due.part("Promise 14, go: undone with all that was done");
        due.is("undo()", x.undo(), 8);
        due.is("rounds", x.now(5), 0);
        due.is("CUTS", x.now(6), 0);
    }

    private static void clear() {
        due.part("Promise 15, clear: \"how many went\"");
        SplitProgram x = with(PAIR, 4);
        due.is("three", x.clear(), 3);
        due.is("none", x.clear(), 0);
        due.is("of a new object", new SplitProgram().clear(), 0);
        due.part("Promise 15, clear: \"there is no LOWER, UPPER, BEST, MASTER, it is not over, no ROUND is done\"");
        int[] now = {0, NO, NO, NO, NO, 0, 0, 0, 0};
        for (int what = 0; what < now.length; what++) {
            due.is("now(" + what + ")", x.now(what), now[what]);
        }
        due.is("gap()", x.gap(), NO);
        due.is("the rounds are as at first", x.go(99), 4);
        due.part("Promise 15, clear: of all that is over");
        SplitProgram bare = with(BARE, 2);
        due.is("clear()", bare.clear(), 1);
        due.is("not over", bare.now(0), 0);
        due.is("again", bare.go(99), 2);
        due.part("Promise 15, clear: TERMS and the program stay");
        SplitProgram y = with(PAIR, 2);
        y.terms(1, 3);
        y.clear();
        due.is("KEEP", y.count(14), 3);
        due.is("plants", y.count(0), 2);
    }

    private static void undo() {
        due.part("Promise 16, undo: \"-4 there is none\"");
        SplitProgram x = new SplitProgram();
        due.refusedWithoutTrace("of a new object", x, -4, SplitProgram::undo);
        x.terms(0, 1);
        x.feed(0x73697465, 0x20202020, 0x20202020, 0x20202020, 0x20202020);
        x.image(0);
        x.would(0, 0);
        due.refusedWithoutTrace("terms(), feed(), image(), would() are no such acts", x, -4, SplitProgram::undo);
        x.end(4);
        due.refused("nor is end()", x, -4, SplitProgram::undo);
        x.site();
        x.back(0);
        due.refused("none behind back()", x, -4, SplitProgram::undo);
        due.part("Promise 16, undo: an act that is undone can't be undone again");
        x.site();
        x.scene(1);
        due.taken("undo()", x, 4, SplitProgram::undo);
        due.taken("undo()", x, 2, SplitProgram::undo);
        due.refused("undo()", x, -4, SplitProgram::undo);
        due.part("Promise 16, undo: \"that was not REFUSED\"");
        SplitProgram y = with(PAIR, 4);
        Due.Act[] refused = {
            SplitProgram::read, z -> z.plant(-1, 1, 1), z -> z.road(0, 0, 1), z -> z.scene(0), z -> z.need(0, 0, 3),
            z -> z.change(0, 0, 5), SplitProgram::round, z -> z.go(1), z -> z.go(0)};
        for (Due.Act act : refused) {
            due.is("refused", act.on(y) < 0 ? 1 : 0, 1);
        }
        due.is("count(5): read() and go()", y.count(5), 2);
        due.taken("undo()", y, 8, SplitProgram::undo);
        SplitProgram full = Due.from(FULL);
        full.plant(1, 1, 1);
        full.site();
        full.scene(1);
        due.taken("undo()", full, 0, SplitProgram::undo);
        due.is("all gone", full.count(0) + full.count(1) + full.count(2), 0);
    }

    private static void undoKept() {
        due.part("Promise 16, undo: \"(12 are kept)\"");
        SplitProgram x = new SplitProgram();
        x.plant(1, 1, 1);
        for (int n = 1; n <= 13; n++) {
            x.change(0, 0, 100 + n);
            due.is("count(5)", x.count(5), Math.min(12, 1 + n));
        }
        for (int n = 12; n >= 1; n--) {
            due.taken("undo()", x, 6, SplitProgram::undo);
            due.is("FEE", x.of(0, 0), 100 + n);
            due.is("count(5)", x.count(5), n - 1);
        }
        due.refused("the thirteenth", x, -4, SplitProgram::undo);
        due.is("FEE", x.of(0, 0), 101);
        due.part("Promise 16, undo: twelve again, once they are undone");
        for (int n = 1; n <= 12; n++) {
            x.change(0, 0, 200 + n);
        }
        for (int n = 11; n >= 1; n--) {
            x.undo();
            due.is("FEE", x.of(0, 0), 200 + n);
        }
        due.is("undo()", x.undo(), 6);
        due.is("FEE", x.of(0, 0), 101);
        due.is("undo()", x.undo(), -4);
    }

    private static void undoTakesBack() {
        Due.Act[] acts = {
            SplitProgram::read, y -> y.plant(1, 1, 1), SplitProgram::site, y -> y.road(1, 1, 1), y -> y.scene(1),
            y -> y.need(0, 1, 1), y -> y.change(1, 2, 0), SplitProgram::round, y -> y.go(99), SplitProgram::clear};
        for (int k = 0; k < acts.length; k++) {
            due.part("Promise 16, undo: \"all but TERMS, TAPE, FAULT, IMAGES is as it was\" act " + k);
            SplitProgram x = Due.from(PAIR);
            x.terms(1, 1);
            x.go(3);
            if (k == 0) {
                Due.put(x, "site");
            }
            long[] before = Look.at(x);
            due.is("the act", acts[k].on(x) >= 0 ? 1 : 0, 1);
            due.is("count(5)", x.count(5), 3);
            due.taken("undo()", x, k, SplitProgram::undo);
            before[6] = 0;
            due.same("all", Look.at(x), before);
            due.is("it goes on as it would have", x.go(99), 4);
            due.is("BEST", x.now(3), 9);
        }
        due.part("Promise 16, undo: CUTS of more than one CASE, with their AGES");
        SplitProgram four = with(FOUR, 2);
        four.change(0, 1, 10);
        four.round();
        long[] seen = Look.at(four);
        due.is("AGES of RAYS and POINTS", four.cut(0, 2) * 10 + four.cut(4, 2), 10);
        four.clear();
        due.is("undo()", four.undo(), 9);
        due.same("all", Look.at(four), seen);
        due.part("Promise 16, undo: TERMS, TAPE, FAULT, IMAGES are not taken back");
        SplitProgram x = Due.from(PAIR);
        x.go(1);
        x.terms(2, 7);
        x.image(1);
        Due.put(x, "x");
        x.read();
        x.feed(0, 0, 0, 0, 0);
        due.is("undo()", x.undo(), 8);
        due.is("TOLERANCE", x.count(15), 7);
        due.is("TAPE", x.count(6), 20);
        due.is("FAULT", x.fault(), 0);
        due.is("IMAGE 1", x.back(1), 0);
        due.is("rounds", x.now(5), 1);
        due.part("Promise 16, undo: an undone read() does not bring its TEXT back");
        SplitProgram y = Due.from(PAIR);
        due.is("undo()", y.undo(), 0);
        due.is("TAPE", y.count(6), 0);
        due.is("plants", y.count(0), 0);
    }
}
