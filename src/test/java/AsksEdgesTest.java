/**
 * Promises 17 to 36 once more, by those of their sentences that name an edge. Each part bears its
 * promise and the sentence. The answers were found by hand.
 *
 * <p>PAIR: see ActsEdgesTest. MOST has the most of all: 4 plants, 6 sites, 4 cases, each number the
 * highest that it can be; a case needs 120, six units of any plants.
 */
public final class AsksEdgesTest {
    private static final int NO = SplitProgram.NONE;
    private static final int MIN = Integer.MIN_VALUE;
    private static final int MAX = Integer.MAX_VALUE;
    private static final String PAIR =
        "plant 5 4 3;plant 1 3 2;site;site;road 0 0 1;road 0 1 6;road 1 1 2;case 2 3 4";
    private static final String BARE = "plant 0 5 3;site;case 1 1";
    private static final Due due = new Due();

    public static void main(String[] args) {
        of();
        told();
        now();
        nowWent();
        gap();
        cut();
        tells();
        exact();
        price();
        asTheProgramIs();
        lack();
        rate();
        floor();
        total();
        least();
        regret();
        mean();
        would();
        wouldNot();
        image();
        back();
        count();
        countRefused();
        status();
        due.close();
    }

    private static SplitProgram with(String text, int rounds) {
        SplitProgram x = Due.from(text);
        if (rounds > 0) {
            due.is("go(" + rounds + ") of " + text, x.go(rounds), rounds);
        }
        return x;
    }

    private static SplitProgram most() {
        SplitProgram x = new SplitProgram();
        for (int p = 0; p < 4; p++) {
            x.plant(999, 20, 3);
        }
        for (int s = 0; s < 6; s++) {
            x.site();
            for (int p = 0; p < 4; p++) {
                x.road(p, s, 99);
            }
        }
        for (int c = 0; c < 4; c++) {
            x.scene(9);
            for (int s = 0; s < 6; s++) {
                x.need(c, s, 20);
            }
        }
        return x;
    }

    private static void of() {
        due.part("Promise 17, of: \"the TOLL of its ROAD to SITE k (3 + k; NONE: none)\"");
        SplitProgram x = most();
        for (int what = 0; what <= 8; what++) {
            due.is("of(3, " + what + ")", x.of(3, what), what == 0 ? 999 : what == 1 ? 20 : what == 2 ? 3 : 99);
        }
        x.road(3, 5, NO);
        due.is("none any more", x.of(3, 8), NO);
        x.road(3, 5, 0);
        due.is("a TOLL of 0 is not none", x.of(3, 8), 0);
        due.part("Promise 17, of: \"NONE.\" no such PLANT, SITE, what");
        for (int none : new int[] {-1, 4, 5, MIN, MAX}) {
            due.is("of(" + none + ", 0)", x.of(none, 0), NO);
            due.is("of(" + none + ", 3)", x.of(none, 3), NO);
        }
        for (int none : new int[] {-1, 9, 10, MIN, MIN + 3, MAX, MAX - 2}) {
            due.is("of(0, " + none + ")", x.of(0, none), NO);
        }
        SplitProgram y = Due.from("plant 1 2 3");
        due.is("no SITE at all", y.of(0, 3), NO);
        due.is("no other PLANT", y.of(1, 0), NO);
        due.is("MOST", y.of(0, 2), 3);
        due.is("of a new object", new SplitProgram().of(0, 0), NO);
    }

    private static void told() {
        due.part("Promise 18, told: \"the NEED of SITE k (1 + k)\"");
        SplitProgram x = most();
        for (int what = 0; what <= 6; what++) {
            due.is("told(3, " + what + ")", x.told(3, what), what == 0 ? 9 : 20);
        }
        due.part("Promise 18, told: \"NONE.\" no such CASE, SITE, what");
        for (int none : new int[] {-1, 4, 5, MIN, MAX}) {
            due.is("told(" + none + ", 0)", x.told(none, 0), NO);
            due.is("told(" + none + ", 1)", x.told(none, 1), NO);
        }
        for (int none : new int[] {-1, 7, 8, MIN, MIN + 1, MAX}) {
            due.is("told(0, " + none + ")", x.told(0, none), NO);
        }
        SplitProgram y = Due.from("case 5");
        due.is("no SITE at all", y.told(0, 1), NO);
        due.is("no other CASE", y.told(1, 0), NO);
        due.is("WEIGHT", y.told(0, 0), 5);
    }

    private static void now() {
        due.part("Promise 19, now: \"0 whether it is over (0 not, 1 .. 3)\"");
        due.is("not", Due.from(PAIR).now(0), 0);
        due.is("not yet", with(PAIR, 3).now(0), 0);
        due.is("1", with(PAIR, 4).now(0), 1);
        due.is("2", with(BARE, 2).now(0), 2);
        SplitProgram small = Due.from(PAIR);
        small.terms(2, 1000);
        small.go(99);
        due.is("3", small.now(0), 3);
        due.part("Promise 19, now: \"NONE (there is none; others)\"");
        SplitProgram x = Due.from(PAIR);
        int[] first = {0, NO, NO, NO, NO, 0, 0, 0, 0};
        for (int what = 0; what < first.length; what++) {
            due.is("now(" + what + ") at first", x.now(what), first[what]);
        }
        for (int what : new int[] {-1, 9, 10, MIN, MAX}) {
            due.is("now(" + what + ")", x.now(what), NO);
        }
        x.round();
        int[] second = {0, 0, NO, NO, 0, 1, 1, 1, 0};
        for (int what = 0; what < second.length; what++) {
            due.is("now(" + what + ") behind a ROUND that FAILS", x.now(what), second[what]);
        }
        due.part("Promise 19, now: \"4 the MASTER of the latest ROUND\" there is none any more");
        SplitProgram bare = with(BARE, 1);
        due.is("PLAN 0", bare.now(4), 0);
        bare.round();
        due.is("none", bare.now(4), NO);
        due.part("Promise 19, now: \"5 how many ROUNDS were done\", the last one that finds no PLAN too");
        due.is("now(5)", bare.now(5), 2);
        due.part("Promise 19, now: \"6 how many CUTS there are, 7 how many of these are RAYS\"");
        SplitProgram y = with(PAIR, 4);
        due.is("CUTS", y.now(6), 3);
        due.is("RAYS", y.now(7), 1);
    }

    private static void nowWent() {
        due.part("Promise 19, now: \"8 how many CUTS went by their AGE since the latest clear() or CHANGED\"");
        SplitProgram x = Due.from(PAIR);
        x.terms(1, 1);
        x.go(4);
        due.is("two", x.now(8), 2);
        x.round();
        due.is("one more", x.now(8), 3);
        due.is("undo()", x.undo(), 7);
        due.is("taken back", x.now(8), 2);
        x.image(0);
        x.clear();
        due.is("behind clear()", x.now(8), 0);
        x.undo();
        due.is("taken back", x.now(8), 2);
        x.site();
        due.is("behind CHANGED", x.now(8), 0);
        x.back(0);
        due.is("BACK", x.now(8), 2);
        due.part("Promise 19, now: CUTS that do not HOLD do not go by their AGE");
        SplitProgram y = with(PAIR, 4);
        y.road(0, 0, 0);
        due.is("both POINTS went", y.now(6), 1);
        due.is("none by AGE", y.now(8), 0);
    }

    private static void gap() {
        due.part("Promise 20, gap: \"NONE without UPPER\"");
        due.is("of a new object", new SplitProgram().gap(), NO);
        SplitProgram x = with(PAIR, 1);
        due.is("with LOWER alone", x.gap(), NO);
        due.is("over without UPPER", with(BARE, 2).gap(), NO);
        due.part("Promise 20, gap: \"by Float.floatToIntBits()\"");
        x.round();
        due.is("30 by 36", x.gap(), Float.floatToIntBits(30f / 36f));
        x.go(99);
        due.is("0", x.gap(), Float.floatToIntBits(0f));
        SplitProgram y = with("plant 0 20 1;site;road 0 0 1;case 1 20", 2);
        due.is("1, as LOWER is 0", y.gap(), Float.floatToIntBits(1f));
        SplitProgram z = with("plant 999 1 1;site;road 0 0 1;case 1 1", 2);
        due.is("1 by 1000", z.gap(), Float.floatToIntBits(1f / 1000f));
        due.part("Promise 20, gap: \"(0, if UPPER is 0)\"");
        SplitProgram nothing = new SplitProgram();
        nothing.round();
        due.is("UPPER", nothing.now(2), 0);
        due.is("gap()", nothing.gap(), 0);
        due.part("Promise 20, gap: NONE again behind clear() and CHANGED");
        x.site();
        due.is("behind site()", x.gap(), NO);
        z.clear();
        due.is("behind clear()", z.gap(), NO);
    }

    private static void cut() {
        due.part("Promise 21, cut: \"NONE (no such PLANT, SITE; others)\"");
        SplitProgram x = with(PAIR, 4);
        for (int i : new int[] {-1, 3, 40, MIN, MAX}) {
            for (int what : new int[] {0, 1, 2, 3, 7}) {
                due.is("cut(" + i + ", " + what + ")", x.cut(i, what), NO);
            }
        }
        for (int what : new int[] {-1, 5, 6, 9, 12, 13, MIN, MAX}) {
            due.is("cut(0, " + what + ")", x.cut(0, what), NO);
        }
        due.is("of a new object", new SplitProgram().cut(0, 0), NO);
        due.part("Promise 21, cut: \"u of PLANT k (3 + k), v of SITE k (7 + k)\" the last of all");
        SplitProgram most = most();
        due.is("round()", most.round(), 4);
        due.is("CASE of the last", most.cut(3, 0), 3);
        for (int what = 3; what <= 12; what++) {
            due.is("cut(3, " + what + ")", most.cut(3, what), 1);
        }
        due.is("cut(3, 13)", most.cut(3, 13), NO);
        due.part("Promise 21, cut: 0 of PLANTS, SITES that came later");
        for (int n = 0; n < 2; n++) {
            x.plant(1, 1, 1);
            x.site();
        }
        due.is("u", x.cut(0, 5) + x.cut(0, 6), 0);
        due.is("v", x.cut(0, 9) + x.cut(0, 10), 0);
        due.is("no such SITE", x.cut(0, 11), NO);
        due.part("Promise 21, cut: none behind clear()");
        x.clear();
        due.is("cut(0, 0)", x.cut(0, 0), NO);
    }

    private static void tells() {
        due.part("Promise 22, tells: \"Integer.MIN_VALUE: no such CUT, PLAN\"");
        SplitProgram x = with(PAIR, 4);
        for (int i : new int[] {-1, 3, 40, MIN, MAX}) {
            due.is("tells(" + i + ", 0)", x.tells(i, 0), MIN);
        }
        for (int plan : new int[] {-1, 12, 16, 64, 255, 256, MIN, MAX}) {
            due.is("tells(0, " + plan + ")", x.tells(0, plan), MIN);
        }
        due.is("of a new object", new SplitProgram().tells(0, 0), MIN);
        due.part("Promise 22, tells: it may be below 0");
        due.is("the last PLAN", x.tells(0, 11), 7 - 12 - 6);
        due.is("the first", x.tells(0, 0), 7);
        x.change(1, 2, 1);
        due.is("PLAN 11 is none now", x.tells(0, 11), MIN);
        SplitProgram most = most();
        most.round();
        due.is("the least that the most can tell", most.tells(0, 255), 120 - 240);
    }

    private static void exact() {
        due.part("Promise 23, exact: \"NONE.\"");
        SplitProgram x = with(PAIR, 4);
        for (int i : new int[] {-1, 3, 40, MIN, MAX}) {
            due.is("exact(" + i + ")", x.exact(i), NO);
        }
        due.part("Promise 23, exact: \"a RAY, if it BARS it and TELLS LACK\"");
        due.is("PLANS 0, 1, 4", x.exact(0), 3);
        due.part("Promise 23, exact: \"a POINT, if its CASE does not FAIL and it TELLS PRICE\"");
        due.is("PLANS 2, 3, 5, 6, 7", x.exact(1), 5);
        x.need(0, 0, 0);
        x.need(0, 1, 0);
        due.is("a RAY that BARS none: TELLING 0, which LACK is, is not enough", x.exact(0), 0);
        SplitProgram one = Due.from("plant 0 5 3;site;road 0 0 1;case 1 6");
        one.round();
        due.is("a RAY that TELLS LACK 6 and LACK 1", one.exact(0), 2);
        due.is("a POINT at all PLANS without PLANT 1", x.exact(1), 4);
        due.is("a POINT at all PLANS", x.exact(2), 12);
    }

    private static void price() {
        due.part("Promise 24, price: \"NONE (it FAILS; others)\"");
        SplitProgram x = Due.from(PAIR);
        due.is("it FAILS", x.price(0, 0), NO);
        due.is("it FAILS by 3", x.price(0, 8), NO);
        for (int none : new int[] {-1, 1, 4, MIN, MAX}) {
            due.is("price(" + none + ", 5)", x.price(none, 5), NO);
        }
        for (int none : new int[] {-1, 12, 16, 255, 256, MIN, MAX}) {
            due.is("price(0, " + none + ")", x.price(0, none), NO);
        }
        due.is("of a new object", new SplitProgram().price(0, 0), NO);
        due.part("Promise 24, price: the least and the most");
        due.is("nothing is needed", Due.from("case 1").price(0, 0), 0);
        due.is("all is free", Due.from("plant 0 20 1;site;road 0 0 0;case 1 20").price(0, 1), 0);
        SplitProgram most = most();
        due.is("120 by 99", most.price(3, 255), 11880);
        due.is("just enough", most.price(3, 3 + 12), 11880);
        due.is("one unit too few", most.price(3, 3 + 8), NO);
    }

    private static void asTheProgramIs() {
        due.part("Promise 24, price: of the program as it is, behind each act");
        SplitProgram x = Due.from("plant 0 5 3;site;road 0 0 1;case 1 5");
        due.is("at first", x.price(0, 1), 5);
        x.image(0);
        x.road(0, 0, 2);
        due.is("behind road()", x.price(0, 1), 10);
        x.need(0, 0, 3);
        due.is("behind need()", x.price(0, 1), 6);
        x.change(0, 1, 2);
        due.is("behind change()", x.price(0, 1), NO);
        x.undo();
        due.is("behind undo()", x.price(0, 1), 6);
        due.is("LACK", x.lack(0, 0), 3);
        x.back(0);
        due.is("behind back()", x.price(0, 1), 5);
        due.is("LACK", x.lack(0, 0), 5);
        Due.put(x, "plant 0 5 3;site;road 0 0 9;case 1 5");
        x.read();
        due.is("behind read()", x.price(0, 1), 45);
        x.plant(0, 5, 1);
        x.road(1, 0, 0);
        due.is("behind plant() and road()", x.price(0, 5), 0);
        x.scene(1);
        x.site();
        due.is("of a new CASE", x.price(1, 0), 0);
        x.need(1, 1, 1);
        due.is("of it with a SITE without a ROAD", x.price(1, 5), NO);
        due.part("Promise 27, floor: of the CUTS as they are, behind each act");
        SplitProgram y = with(PAIR, 4);
        due.is("at first", y.floor(5), 36);
        y.image(0);
        y.need(0, 1, 3);
        due.is("behind need()", y.floor(5), 6 + 2 * (3 + 18 - 12));
        y.change(1, 0, 7);
        due.is("behind change()", y.floor(5), 12 + 2 * (3 + 18 - 12));
        y.undo();
        due.is("behind undo()", y.floor(5), 6 + 2 * (3 + 18 - 12));
        y.road(1, 1, 1);
        due.is("behind road(), with the RAY alone", y.floor(5), 6);
        y.clear();
        due.is("behind clear()", y.floor(0), 0);
        y.back(0);
        due.is("behind back()", y.floor(5), 36);
        y.would(0, 0);
        due.is("behind would()", y.floor(5), 36);
    }

    private static void lack() {
        due.part("Promise 25, lack: \"NONE.\"");
        SplitProgram x = Due.from(PAIR);
        for (int none : new int[] {-1, 1, 4, MIN, MAX}) {
            due.is("lack(" + none + ", 5)", x.lack(none, 5), NO);
        }
        for (int none : new int[] {-1, 12, 16, 255, 256, MIN, MAX}) {
            due.is("lack(0, " + none + ")", x.lack(0, none), NO);
        }
        due.part("Promise 25, lack: the least and the most");
        due.is("it can be", x.lack(0, 5), 0);
        due.is("more than enough", x.lack(0, 11), 0);
        due.is("no SITE", Due.from("case 1").lack(0, 0), 0);
        SplitProgram most = most();
        due.is("all of it", most.lack(3, 0), 120);
        due.is("just enough", most.lack(3, 3 + 12), 0);
        due.is("one unit too few", most.lack(3, 3 + 8), 20);
    }

    private static void rate() {
        due.part("Promise 26, rate: \"NONE.\"");
        SplitProgram x = Due.from(PAIR);
        for (int plan : new int[] {0, 5}) {
            for (int none : new int[] {-1, 1, 4, MIN, MAX}) {
                due.is("rate(" + none + ", " + plan + ", 0)", x.rate(none, plan, 0), NO);
            }
            for (int none : new int[] {-1, 2, 3, 6, 9, 10, MIN, MIN + 4, MAX}) {
                due.is("rate(0, " + plan + ", " + none + ")", x.rate(0, plan, none), NO);
            }
        }
        for (int none : new int[] {-1, 12, 16, 256, MIN, MAX}) {
            due.is("rate(0, " + none + ", 0)", x.rate(0, none, 0), NO);
        }
        due.part("Promise 26, rate: \"u of PLANT k (k), v of SITE k (4 + k)\" the last of all");
        SplitProgram most = most();
        due.is("u of a RAY", most.rate(3, 0, 3), 1);
        due.is("v of a RAY", most.rate(3, 0, 9), 1);
        due.is("u of a POINT", most.rate(3, 255, 3), 0);
        due.is("v of a POINT", most.rate(3, 255, 9), 99);
        due.is("rate(3, 255, 10)", most.rate(3, 255, 10), NO);
        due.part("Promise 26, rate: it is on paper");
        due.is("no CUT comes", most.now(6), 0);
    }

    private static void floor() {
        due.part("Promise 27, floor: \"NONE.\"");
        SplitProgram x = with(PAIR, 1);
        for (int none : new int[] {-1, 12, 16, 255, 256, MIN, MAX}) {
            due.is("no PLAN: floor(" + none + ")", x.floor(none), NO);
        }
        due.is("a RAY that TELLS 3", x.floor(1), NO);
        due.is("a RAY that TELLS 1", x.floor(8), NO);
        due.is("a RAY that TELLS 0 does not BAR", x.floor(5), 6);
        due.is("a RAY that TELLS -1", x.floor(2), 10);
        due.part("Promise 27, floor: without any CUT the FEES");
        due.is("the least", Due.from(PAIR).floor(0), 0);
        due.is("the most", most().floor(255), 11988);
        due.is("of a new object", new SplitProgram().floor(0), 0);
    }

    private static void total() {
        due.part("Promise 28, total: \"NONE.\"");
        SplitProgram x = Due.from(PAIR);
        for (int none : new int[] {-1, 12, 16, 255, 256, MIN, MAX}) {
            due.is("no PLAN: total(" + none + ")", x.total(none), NO);
        }
        due.is("the one CASE FAILS", x.total(8), NO);
        x.scene(1);
        x.need(1, 0, 5);
        due.is("the second FAILS", x.total(5), NO);
        due.is("neither does", x.total(6), 10 + 1 + 2 * 15 + 5);
        due.part("Promise 28, total: the least and the most");
        due.is("of a new object", new SplitProgram().total(0), 0);
        SplitProgram most = most();
        due.is("of the most", most.total(255), 11988 + 4 * 9 * 11880);
        due.part("Promise 28, total: \"NONE.\" where all PLANS 0 .. 255 are some");
        for (int none : new int[] {-1, -256, 256, 511, MIN, MAX}) {
            due.is("total(" + none + ")", most.total(none), NO);
            due.is("floor(" + none + ")", most.floor(none), NO);
            due.is("price(0, " + none + ")", most.price(0, none), NO);
            due.is("lack(0, " + none + ")", most.lack(0, none), NO);
        }
    }

    private static void least() {
        due.part("Promise 29, least: \"NONE.\"");
        SplitProgram x = Due.from(PAIR);
        for (int what : new int[] {-1, 2, MIN, MAX}) {
            due.is("least(" + what + ")", x.least(what), NO);
        }
        SplitProgram bare = Due.from(BARE);
        due.is("no PLAN has a TOTAL", bare.least(0), NO);
        due.is("nor is there a PLAN", bare.least(1), NO);
        due.part("Promise 29, least: \"the TOTAL (what 0), the PLAN (1)\", the lowest");
        due.is("TOTAL", x.least(0), 29);
        due.is("PLAN", x.least(1), 9);
        SplitProgram tie = Due.from("plant 3 5 3;plant 3 5 3;site;road 0 0 1;road 1 0 1;case 1 5");
        due.is("of two the lowest", tie.least(1), 1);
        due.is("of a new object", new SplitProgram().least(0) + new SplitProgram().least(1), 0);
        SplitProgram most = most();
        due.is("the most", most.least(0), 6 * 999 + 4 * 9 * 11880);
        due.is("the lowest PLAN of six units", most.least(1), 3 + 4 * 3);
    }

    private static void regret() {
        due.part("Promise 30, regret: \"NONE (it has no TOTAL)\"");
        SplitProgram x = Due.from(PAIR);
        due.is("the CASE FAILS", x.regret(8), NO);
        for (int none : new int[] {-1, 12, 16, 255, 256, MIN, MAX}) {
            due.is("no PLAN: regret(" + none + ")", x.regret(none), NO);
        }
        due.part("Promise 30, regret: \"(0 without CASES)\"");
        due.is("of the dearest PLAN", Due.from("plant 999 1 3").regret(3), 0);
        due.is("of a new object", new SplitProgram().regret(0), 0);
        due.part("Promise 30, regret: the least and the most");
        due.is("0 of the best", x.regret(9), 0);
        due.is("of the most: six units too many", most().regret(255), 6 * 999);
        SplitProgram none = Due.from("plant 9 5 3;site;road 0 0 1;case 1");
        due.is("the least is that of PLAN 0", none.regret(3), 27);
        due.part("Promise 30, regret: of all PLANS by which that CASE does not FAIL, though another does");
        SplitProgram y = Due.from("plant 9 5 3;site;road 0 0 1;case 1 1;case 1 15");
        due.is("27 and 1 less 9 and 1", y.regret(3), 18);
    }

    private static void mean() {
        due.part("Promise 31, mean: \"NONE (it has no TOTAL; there is no CASE)\"");
        SplitProgram x = Due.from(PAIR);
        due.is("the CASE FAILS", x.mean(8), -1L);
        for (int none : new int[] {-1, 12, 16, 255, 256, MIN, MAX}) {
            due.is("no PLAN: mean(" + none + ")", x.mean(none), -1L);
        }
        due.is("no CASE", Due.from("plant 1 1 1").mean(1), -1L);
        due.is("of a new object", new SplitProgram().mean(0), -1L);
        due.part("Promise 31, mean: \"by Double.doubleToLongBits()\"");
        due.is("15", x.mean(5), Double.doubleToLongBits(15.0));
        due.is("0", Due.from("case 9").mean(0), Double.doubleToLongBits(0.0));
        due.is("the most", most().mean(255), Double.doubleToLongBits(11880.0));
        for (int power = 1; power <= 16; power *= 2) {
            String text = "plant 0 20 1;site;road 0 0 1;case 1 " + power;
            due.is("by WEIGHTS of 1: " + power, Due.from(text).mean(1), Double.doubleToLongBits(power));
        }
        String far = "plant 0 20 1;site;road 0 0 1;case 9;case 9;case 9;case 1 1";
        due.is("the least above 0", Due.from(far).mean(1), Double.doubleToLongBits(1.0 / 28.0));
        String odd = "plant 0 20 3;site;road 0 0 99;case 9 20;case 9 20;case 9 20;case 8 19";
        due.is("a long one", Due.from(odd).mean(3), Double.doubleToLongBits((27 * 1980 + 8 * 1881) / 35.0));
    }

    private static void would() {
        due.part("Promise 32, would: \"by a WAY 0, 1 and a KEEP 0 .. 9\"");
        SplitProgram x = Due.from(PAIR);
        due.is("would(0, 0)", x.would(0, 0), 4);
        due.is("would(1, 9)", x.would(1, 9), 4);
        due.is("would(0, 1)", x.would(0, 1), 7);
        for (int way : new int[] {-1, 2, MIN, MAX}) {
            due.is("would(" + way + ", 0)", x.would(way, 0), NO);
        }
        for (int keep : new int[] {-1, 10, MIN, MAX}) {
            due.is("would(0, " + keep + ")", x.would(0, keep), NO);
        }
        due.part("Promise 32, would: not REFUSED, and nothing stands otherwise");
        x.terms(9, 9);
        x.go(3);
        x.terms(9, 9);
        long[] before = Look.at(x);
        x.would(1, 1);
        x.would(7, 7);
        due.same("all", Look.at(x), before);
        due.is("count(7)", x.count(7), 2);
        due.is("status() is that of terms(9, 9)", x.status(), -1);
        due.part("Promise 32, would: also if it is over");
        x.go(99);
        due.is("would(0, 0)", x.would(0, 0), 4);
        due.part("Promise 32, would: it is over at once, or without a PLAN");
        due.is("of a new object", new SplitProgram().would(0, 0), 1);
        due.is("no PLAN is left", Due.from(BARE).would(1, 1), 2);
        due.part("Promise 32, would: TOLERANCE 0, ROOM 99 whatever the TERMS are");
        SplitProgram y = most();
        y.terms(2, 1000);
        y.terms(3, 4);
        due.is("the TERMS end it by a small gap", y.go(99), 2);
        due.is("would(0, 0): plans 0, 15, 15", y.would(0, 0), 3);
        SplitProgram z = Due.from("plant 999 1 1;site;road 0 0 1;case 1 1");
        due.is("a gap of 1 by 1000 is not small for it", z.would(0, 0), 3);
    }

    /** Fees, sizes, tolls by plants, weights, needs by cases. All plants have MOST 3. */
    private static SplitProgram grown(int[] g, int sites) {
        SplitProgram x = new SplitProgram();
        for (int p = 0; p < 4; p++) {
            x.plant(g[p], g[4 + p], 3);
        }
        for (int s = 0; s < sites; s++) {
            x.site();
        }
        for (int at = 0; at < 4 * sites; at++) {
            if (g[8 + at] != NO) {
                x.road(at / sites, at % sites, g[8 + at]);
            }
        }
        for (int c = 0; c < 4; c++) {
            x.scene(g[8 + 4 * sites + c]);
        }
        for (int at = 0; at < 4 * sites; at++) {
            x.need(at / sites, at % sites, g[12 + 4 * sites + at]);
        }
        return x;
    }

    private static void wouldNot() {
        due.part("Promise 32, would: \"NONE (not in 99\"");
        int[] in99 = {22, 912, 99, 33, 18, 20, 17, 12, 91, 14, -1, 5, 75, 98, 68, 37, 27, 8, 13, -1,
            9, 8, 5, 4, 15, 10, 12, 12, 2, 7, 4, 14, 9, 17, 18, 18};
        int[] in100 = {44, 62, 94, 25, 12, 9, 19, 1, 81, 7, -1, 5, 11, 65, 66, -1, 3, -1, -1, 4,
            7, 3, 8, 9, 10, 0, 20, 4, 3, 17, 11, 12, 1, 15, 14, 5};
        due.is("in 99", grown(in99, 3).would(1, 1), 99);
        due.is("in 100", grown(in100, 3).would(1, 1), NO);
        due.is("the same with all CUTS kept", grown(in100, 3).would(1, 0) > 0 ? 1 : 0, 1);
        due.part("Promise 32, would: \"a ROUND would be REFUSED)\"");
        int[] cuts99 = {43, 308, 79, 44, 16, 14, 19, 20, -1, 48, 11, -1, -1, 2, 5, -1, 22, -1, 14, 6, 23, 46, -1, 14,
            66, -1, 48, -1, 10, 8, 23, -1, 4, 8, 1, 1, 2, 3, 9, 12, 13, 19, 7, 3, 8, 14, 8, 20, 15, 1, 19, 4, 14, 4,
            1, 1, 13, 11, 15, 19};
        int[] cuts100 = cuts99.clone();
        cuts100[32] = 8;
        cuts100[52] = 13;
        due.is("99 CUTS", grown(cuts99, 6).would(0, 0) > 0 ? 1 : 0, 1);
        due.is("100 CUTS", grown(cuts100, 6).would(0, 0), NO);
        due.is("fewer, one by one", grown(cuts100, 6).would(1, 0) > 0 ? 1 : 0, 1);
    }

    private static void image() {
        due.part("Promise 33, image: \"0; -1\"");
        SplitProgram x = with(PAIR, 2);
        due.eachRefused("image(*)", x, -1, new int[] {-1, 2, MIN, MAX}, SplitProgram::image);
        due.taken("image(0)", x, 0, y -> y.image(0));
        due.taken("image(1)", x, 0, y -> y.image(1));
        due.taken("image(0) again", x, 0, y -> y.image(0));
        due.part("Promise 33, image: nothing to undo");
        due.is("count(5): read() and go()", x.count(5), 2);
        due.part("Promise 33, image: the latest one is kept");
        x.site();
        x.image(0);
        x.site();
        x.back(0);
        due.is("sites", x.count(1), 3);
        x.back(1);
        due.is("sites", x.count(1), 2);
    }

    private static void back() {
        due.part("Promise 34, back: \"-1\"");
        SplitProgram x = with(PAIR, 2);
        due.eachRefused("back(*)", x, -1, new int[] {-1, 2, MIN, MAX}, SplitProgram::back);
        due.part("Promise 34, back: \"-2 it was not kept\"");
        due.eachRefused("back(*)", x, -2, new int[] {0, 1}, SplitProgram::back);
        x.image(1);
        due.refused("back(0), as but 1 is kept", x, -2, y -> y.back(0));
        due.taken("back(1)", x, 0, y -> y.back(1));
        due.part("Promise 34, back: \"all that it keeps is as it was then\"");
        SplitProgram y = Due.from(PAIR);
        y.terms(1, 1);
        y.go(4);
        y.image(0);
        long[] before = Look.at(y);
        y.terms(0, 1);
        y.terms(1, 9);
        y.terms(2, 9);
        y.terms(3, 9);
        y.go(99);
        y.road(1, 1, 1);
        y.plant(1, 1, 1);
        y.site();
        y.scene(1);
        y.need(0, 0, 1);
        y.change(0, 1, 1);
        y.clear();
        due.taken("back(0)", y, 0, z -> z.back(0));
        before[5] = 0;
        due.same("all but what can be undone", Look.at(y), before);
        due.part("Promise 34, back: \"(nothing, behind back())\"");
        due.refused("undo()", y, -4, SplitProgram::undo);
        due.part("Promise 34, back: \"(IMAGES stay)\"");
        due.is("it goes on as it would have", y.go(99), 3);
        due.taken("back(0) again", y, 0, z -> z.back(0));
        due.is("rounds", y.now(5), 4);
        due.part("Promise 34, back: TAPE, FAULT, what is told of REFUSED calls are not kept");
        SplitProgram t = new SplitProgram();
        t.image(0);
        Due.put(t, "x");
        t.read();
        t.feed(0, 0, 0, 0, 0);
        t.site();
        t.back(0);
        due.is("TAPE", t.count(6), 20);
        due.is("FAULT", t.fault(), 0);
        due.is("count(12)", t.count(12), 1);
        due.is("sites", t.count(1), 0);
    }

    private static void count() {
        due.part("Promise 35, count: \"NONE for others\"");
        SplitProgram x = Due.from(PAIR);
        for (int what : new int[] {-1, 17, 18, MIN, MAX}) {
            due.is("count(" + what + ")", x.count(what), NO);
        }
        due.part("Promise 35, count: \"4 PLANS there are\"");
        due.is("of a new object", new SplitProgram().count(4), 1);
        due.is("4 by 3", x.count(4), 12);
        due.is("all", most().count(4), 256);
        due.is("MOST 0 adds none", Due.from("plant 1 1 0;plant 1 1 0").count(4), 1);
        due.part("Promise 35, count: \"3 ROADS\"");
        due.is("three", x.count(3), 3);
        due.is("all", most().count(3), 24);
        x.road(0, 0, NO);
        due.is("one fewer", x.count(3), 2);
        x.road(0, 0, 0);
        due.is("one with TOLL 0", x.count(3), 3);
        due.part("Promise 35, count: \"5 how many can be undone, 6 bytes of the TAPE\"");
        due.is("read() and two road()", x.count(5), 3);
        x.feed(0, 0, 0, 0, 0);
        x.end(7);
        due.is("seven bytes", x.count(6), 7);
        for (int n = 0; n < 20; n++) {
            x.clear();
        }
        due.is("twelve", x.count(5), 12);
    }

    private static void countRefused() {
        due.part("Promise 35, count: \"7 .. 12 how many calls were REFUSED by -1 .. -6\"");
        SplitProgram x = with(PAIR, 4);
        x.terms(9, 9);
        x.image(9);
        x.back(0);
        x.round();
        x.go(1);
        x.need(0, 0, 3);
        for (int n = 0; n < 6; n++) {
            x.site();
        }
        x.read();
        int[] refused = {2, 1, 2, 1, 2, 1};
        for (int by = 1; by <= 6; by++) {
            due.is("count(" + (6 + by) + ")", x.count(6 + by), refused[by - 1]);
        }
        due.part("Promise 35, count: \"(IMAGES do not keep that, undo() does not take it back)\"");
        x.image(0);
        x.undo();
        x.undo();
        x.terms(9, 9);
        x.back(0);
        int[] later = {3, 1, 2, 1, 2, 1};
        for (int by = 1; by <= 6; by++) {
            due.is("count(" + (6 + by) + ")", x.count(6 + by), later[by - 1]);
        }
        due.part("Promise 35, count: what answers NONE is not REFUSED");
        x.end(-1);
        x.of(9, 9);
        x.told(9, 9);
        x.now(9);
        x.cut(9, 9);
        x.tells(9, 999);
        x.exact(99);
        x.price(9, 9);
        x.lack(9, 9);
        x.rate(9, 9, 9);
        x.floor(999);
        x.total(999);
        x.least(9);
        x.regret(999);
        x.mean(999);
        x.would(9, 9);
        x.count(99);
        for (int by = 1; by <= 6; by++) {
            due.is("count(" + (6 + by) + ")", x.count(6 + by), later[by - 1]);
        }
    }

    private static void status() {
        due.part("Promise 36, status: \"0 if it was not, or ahead of any\"");
        due.is("ahead of any", new SplitProgram().status(), 0);
        Due.Act[] fine = {
            x -> x.terms(0, 0), SplitProgram::read, x -> x.plant(1, 1, 1), SplitProgram::site, x -> x.road(0, 0, 9),
            x -> x.scene(1), x -> x.need(0, 0, 9), x -> x.change(0, 0, 9), SplitProgram::round, x -> x.go(1),
            SplitProgram::undo, x -> x.image(0), x -> x.back(1)};
        for (int k = 0; k < fine.length; k++) {
            SplitProgram x = Due.from(PAIR);
            x.image(1);
            x.clear();
            Due.put(x, "site");
            x.go(0);
            due.is("REFUSED ahead of act " + k, x.status(), -1);
            due.is("act " + k, fine[k].on(x) >= 0 ? 1 : 0, 1);
            due.is("status() behind act " + k, x.status(), 0);
        }
        due.part("Promise 36, status: clear() and all that only tell leave it");
        SplitProgram x = with(PAIR, 2);
        x.need(0, 0, 3);
        x.clear();
        x.feed(0, 0, 0, 0, 0);
        x.end(0);
        x.end(-1);
        x.fault();
        due.is("of(0, 0)", x.of(0, 0), 5);
        x.told(9, 0);
        x.now(0);
        x.gap();
        x.cut(0, 0);
        x.tells(0, 0);
        x.exact(0);
        x.price(0, 0);
        x.lack(0, 0);
        x.rate(0, 0, 0);
        x.floor(0);
        x.total(0);
        x.least(0);
        x.regret(0);
        x.mean(0);
        x.would(0, 0);
        x.count(0);
        due.is("status() once", x.status(), -4);
        due.is("status() again", x.status(), -4);
    }
}
