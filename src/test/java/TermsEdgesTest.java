/**
 * The edges that the document's Terms I to IV name, each with the promise by which it is seen.
 * The answers were found by hand; PAIR: see ActsEdgesTest. Its cuts, behind 4 rounds:
 * a ray (u 1, 1; v 1, 1), a point (u 0, 4; v 1, 6), a point (u 0, 0; v 1, 2).
 *
 * <p>An AGE of 99 can't come to be: no CUT outlives a rise of LOWER by more than KEEP, 9 at most,
 * and without a rise each ROUND brings a CUT, of which ROOM takes 40 at most.
 */
public final class TermsEdgesTest {
    private static final int NO = SplitProgram.NONE;
    private static final String PAIR =
        "plant 5 4 3;plant 1 3 2;site;site;road 0 0 1;road 0 1 6;road 1 1 2;case 2 3 4";
    private static final String BARE = "plant 0 5 3;site;case 1 1";
    /** Case 0 needs site 0 alone, which plant 0 serves; case 1 site 1 besides, which plant 1 serves. */
    private static final String BOTH =
        "plant 1 9 1;plant 2 9 1;site;site;road 0 0 99;road 1 1 1;case 9 3;case 1 3 1";
    private static final Due due = new Due();

    public static void main(String[] args) {
        plans();
        later();
        lack();
        prices();
        point();
        ray();
        holds();
        cutsTell();
        reach();
        allPlans();
        master();
        noPlanLeft();
        tight();
        rises();
        goByAge();
        upper();
        newCuts();
        wayOne();
        overInOrder();
        gapAsFloats();
        onPaper();
        tokens();
        lines();
        numbers();
        notToldByThen();
        oneMoreThanCanBe();
        faultAtTheEnd();
        images();
        due.close();
    }

    private static SplitProgram with(String text, int rounds) {
        SplitProgram x = Due.from(text);
        if (rounds > 0) {
            due.is("go(" + rounds + ") of " + text, x.go(rounds), rounds);
        }
        return x;
    }

    private static void plans() {
        due.part("Terms I (promise 28): \"those of PLANT 0, 4 times those of 1, 16 times those of 2, 64 times those of 3\"");
        SplitProgram x = Due.from("plant 1 1 3;plant 10 1 2;plant 100 1 1;plant 900 1 3");
        due.is("one of each", x.total(1 + 4 + 16 + 64), 1011);
        due.is("the most of each", x.total(3 + 8 + 16 + 192), 3 + 20 + 100 + 2700);
        due.part("Terms I (promise 28): \"one with more than MOST .. is none\"");
        due.is("3 of PLANT 1", x.total(12), NO);
        due.is("2 of PLANT 2", x.total(32), NO);
        x.change(3, 2, 0);
        due.is("1 of a PLANT of MOST 0", x.total(64), NO);
        due.is("PLANS", x.count(4), 24);
        due.part("Terms I (promise 28): \"or with UNITS of a PLANT that there is not, is none\"");
        SplitProgram y = Due.from("plant 1 1 3");
        due.is("the last PLAN", y.total(3), 3);
        due.is("of PLANT 1", y.total(4), NO);
        due.is("of PLANT 2", y.total(16), NO);
        due.is("of PLANT 3", y.total(64), NO);
        y.plant(7, 1, 1);
        due.is("once there is one", y.total(4), 7);
        y.undo();
        due.is("undone", y.total(4), NO);
        due.part("Terms I (promise 25): \"UNITS times SIZE\"");
        SplitProgram z = Due.from("plant 0 7 3;site;road 0 0 1;case 1 20");
        for (int units = 0; units <= 3; units++) {
            due.is("LACK by " + units, z.lack(0, units), Math.max(0, 20 - 7 * units));
        }
    }

    private static void later() {
        due.part("Terms I (promise 18): \"of each SITE (those that come later, too) a NEED 0 .. 20 (0 at first)\"");
        SplitProgram x = new SplitProgram();
        x.scene(1);
        x.site();
        x.scene(2);
        x.site();
        for (int c = 0; c < 2; c++) {
            for (int s = 0; s < 2; s++) {
                due.is("NEED", x.told(c, 1 + s), 0);
                due.is("need(" + c + ", " + s + ", 20)", x.need(c, s, 20), 0);
            }
        }
        due.part("Terms I (promise 17): \"or there is none (at first)\"");
        x.plant(1, 1, 1);
        x.site();
        for (int s = 0; s < 3; s++) {
            due.is("ROAD to SITE " + s, x.of(0, 3 + s), NO);
        }
    }

    private static void lack() {
        due.part("Terms II (promise 25): \"the greatest of all sets of SITES (0 of none)\"");
        SplitProgram x = Due.from(PAIR);
        due.is("both SITES", x.lack(0, 1), 3);
        due.is("SITE 0 alone lacks more than both", x.lack(0, 8), 3);
        due.is("none lacks any", x.lack(0, 9), 0);
        due.is("without SITES", Due.from("plant 1 1 1;case 1").lack(0, 0), 0);
        due.is("without NEEDS", Due.from("plant 1 1 1;site;case 1").lack(0, 0), 0);
        due.part("Terms II (promise 25): a SITE without a ROAD, a PLANT without a ROAD");
        SplitProgram y = Due.from("plant 0 20 3;site;case 1 1");
        due.is("the SITE lacks all", y.lack(0, 3), 1);
        y.road(0, 0, 99);
        due.is("with a ROAD", y.lack(0, 3), 0);
        SplitProgram all = Due.from("plant 0 9 1;plant 0 9 1;plant 0 9 1;plant 0 9 1;site;site;road 0 0 1;road 1 0 1;"
            + "road 2 0 1;road 3 0 1;case 1 9 1");
        due.is("though each PLANT has STOCK", all.lack(0, 85), 1);
        due.is("its RAY is of that SITE alone", all.rate(0, 85, 4) * 10 + all.rate(0, 85, 5), 1);
        due.part("Terms II (promise 25): LACK of each CASE is its own, and anew behind need()");
        SplitProgram two = Due.from("plant 0 5 3;site;case 1 1;case 1 2");
        due.is("CASE 1", two.lack(1, 3), 2);
        due.is("CASE 0", two.lack(0, 3), 1);
        due.is("CASE 1 again", two.lack(1, 3), 2);
        two.need(0, 0, 5);
        due.is("CASE 0 anew", two.lack(0, 3), 5);
        due.is("CASE 1 as it was", two.lack(1, 3), 2);
        due.part("Terms II (promise 24): \"The CASE FAILS, if LACK is above 0\"");
        SplitProgram z = Due.from("plant 0 5 3;site;road 0 0 1;case 1 5;case 1 6");
        due.is("LACK 0", z.lack(0, 1) * 10 + z.price(0, 1), 5);
        due.is("LACK 1", z.lack(1, 1), 1);
        due.is("it FAILS", z.price(1, 1), NO);
    }

    private static void prices() {
        due.part("Terms II (promise 24): \"PRICE: the least that all costs together\" by taking over three times");
        SplitProgram x = chain();
        due.is("all but one by their nearest", x.price(1, 85), 0);
        due.is("each takes over from the next", x.price(0, 85), 3);
        due.part("Terms II (promise 26): its RATES");
        int[] rates = {3, 2, 1, 0, 3, 2, 1, 3};
        for (int what = 0; what < rates.length; what++) {
            due.is("rate(0, 85, " + what + ")", x.rate(0, 85, what), rates[what]);
        }
        due.part("Terms II (promise 24): PRICE, no more is taken over at a SITE than is brought there");
        SplitProgram some = Due.from("plant 0 5 1;plant 0 20 1;site;site;site;road 0 0 0;road 1 0 1;road 0 1 0;road 1 1 5;"
            + "road 0 2 0;case 1 3 2 5");
        due.is("3 by 1, 2 by 5", some.price(0, 5), 13);
        due.is("u of PLANT 0", some.rate(0, 5, 0), 5);
        due.part("Terms II (promise 24): no PLANT gives more than its STOCK");
        SplitProgram y = Due.from("plant 0 3 2;plant 0 9 1;site;road 0 0 1;road 1 0 10;case 1 7");
        due.is("3 by 1, 4 by 10", y.price(0, 5), 43);
        due.is("6 by 1, 1 by 10", y.price(0, 6), 16);
        due.is("7 by 10", y.price(0, 4), 70);
    }

    /** Four plants of one each: whoever serves site 3 leaves site 0 to the next, and so on. */
    private static SplitProgram chain() {
        return Due.from("plant 0 1 1;plant 0 1 1;plant 0 1 1;plant 0 1 1;site;site;site;site;road 0 0 0;road 1 0 1;"
            + "road 1 1 0;road 2 1 1;road 2 2 0;road 3 2 1;road 0 3 0;case 1 1 1 1 1;case 1 1 1 1");
    }

    private static void point() {
        due.part("Terms II (promise 26): POINT, \"those of which each u is the least\"");
        SplitProgram x = Due.from(PAIR);
        due.is("u of a PLANT without STOCK is what v asks", x.rate(0, 2, 1), 4);
        due.is("u of a PLANT that is used up, but not missed", x.rate(0, 9, 0), 0);
        SplitProgram y = Due.from("plant 0 5 1;plant 0 5 1;site;road 0 0 1;road 1 0 4;case 1 5;case 1 6");
        due.is("all of PLANT 0 is used, none of 1", y.rate(0, 5, 0), 0);
        due.is("so v is its TOLL", y.rate(0, 5, 4), 1);
        due.is("one more is needed", y.rate(1, 5, 0), 3);
        due.is("v is the other's TOLL", y.rate(1, 5, 4), 4);
        due.part("Terms II (promise 26): POINT, \"then of each SITE the greatest v that HOLDS (0, if it has no ROAD)\"");
        SplitProgram z = Due.from("plant 0 5 1;site;site;site;road 0 0 1;road 0 1 99;case 1 5");
        due.is("a SITE that needs nothing", z.rate(0, 1, 5), 99);
        due.is("a SITE without a ROAD", z.rate(0, 1, 6), 0);
        SplitProgram free = Due.from("plant 0 5 1;site;road 0 0 0;case 1 5");
        due.is("TOLL 0", free.rate(0, 1, 4), 0);
    }

    private static void ray() {
        due.part("Terms II (promise 26): RAY, \"of all such the one that is in all others\"");
        SplitProgram x = Due.from("plant 0 9 1;plant 0 4 1;site;site;site;road 0 0 1;road 1 1 1;road 0 2 1;case 1 5 4 0");
        due.is("LACK of {0} and of {0, 1}", x.lack(0, 4), 5);
        due.is("SITE 0", x.rate(0, 4, 4), 1);
        due.is("SITE 1, which just gets its NEED, is not in it", x.rate(0, 4, 5), 0);
        due.is("SITE 2, which needs nothing, is not in it", x.rate(0, 4, 6), 0);
        due.is("u of PLANT 0", x.rate(0, 4, 0), 1);
        due.is("u of PLANT 1", x.rate(0, 4, 1), 0);
        due.part("Terms II (promise 26): RAY, \"u is 1 of all PLANTS that have a ROAD to one of these\"");
        SplitProgram y = Due.from("plant 0 1 3;plant 0 2 3;plant 0 3 3;site;road 0 0 1;road 2 0 1;case 1 20");
        due.is("u of PLANT 0", y.rate(0, 63, 0), 1);
        due.is("u of PLANT 1, without a ROAD", y.rate(0, 63, 1), 0);
        due.is("u of PLANT 2", y.rate(0, 63, 2), 1);
        due.is("LACK", y.lack(0, 63), 20 - 3 - 9);
        due.part("Terms II (promise 26): RAY of a SITE without any ROAD");
        SplitProgram bare = Due.from(BARE);
        due.is("v", bare.rate(0, 3, 4), 1);
        due.is("u", bare.rate(0, 3, 0), 0);
    }

    private static int cutsBehind(int plant, int site, int toll) {
        SplitProgram x = with(PAIR, 4);
        due.is("road(" + plant + ", " + site + ", " + toll + ")", x.road(plant, site, toll) >= 0 ? 1 : 0, 1);
        int found = 0;
        for (int i = 0; i < x.now(6); i++) {
            found = 10 * found + (x.cut(i, 1) == 1 ? 1 : x.cut(i, 4) == 4 ? 2 : 3);
        }
        return found;
    }

    private static void holds() {
        due.part("Terms II (promise 9): RATES \"HOLD, if by each ROAD v is not above u and the TOLL\"");
        due.is("a TOLL one more", cutsBehind(0, 1, 7), 123);
        due.is("a TOLL one less, by which v of CUT 1 is above", cutsBehind(0, 1, 5), 13);
        due.is("a TOLL that v of CUT 2 just meets", cutsBehind(0, 1, 2), 13);
        due.is("a TOLL below that too", cutsBehind(0, 1, 1), 1);
        due.is("both POINTS are above", cutsBehind(1, 1, 1), 1);
        due.is("a new ROAD that both POINTS just bear", cutsBehind(1, 0, 1), 123);
        due.is("a new ROAD that but CUT 1 bears, by its u", cutsBehind(1, 0, 0), 12);
        due.is("no ROAD any more", cutsBehind(0, 0, NO), 123);
        due.part("Terms II (promise 9): \"A RAY HOLDS, if by each ROAD v is not above u\", whatever the TOLL");
        due.is("a ROAD by which v is u", cutsBehind(1, 0, 99), 123);
        SplitProgram x = with(BARE, 1);
        due.is("CUTS", x.now(6), 1);
        due.is("a ROAD by which v is above u", x.road(0, 0, 99), 0);
        due.is("CUTS", x.now(6), 0);
        due.part("Terms II (promise 12): CUTS of a program that is full HOLD");
        SplitProgram full = Due.from("plant 1 20 3;plant 1 20 3;plant 1 20 3;plant 1 20 3;site;site;site;site;site;site;"
            + "case 1 1 2 3 4 5 6");
        for (int at = 0; at < 24; at++) {
            full.road(at / 6, at % 6, at);
        }
        due.is("a RAY, a POINT", full.round() + full.round(), 2);
        full.change(3, 0, 9);
        due.is("CUTS", full.now(6), 2);
        due.part("Terms III (promise 7): CUTS HOLD with one more PLANT until it has a ROAD");
        SplitProgram y = with(PAIR, 4);
        y.plant(0, 1, 1);
        due.is("CUTS", y.now(6), 3);
        y.road(2, 1, 99);
        due.is("the RAY, of which v is above u 0, goes", y.now(7), 0);
        due.is("the POINTS stay", y.now(6), 2);
        y.road(2, 1, 5);
        due.is("one of these goes", y.now(6), 1);
    }

    private static void cutsTell() {
        due.part("Terms II (promise 22): \"the CASE's NEEDS (as they are)\"");
        SplitProgram x = with(PAIR, 4);
        x.need(0, 0, 20);
        due.is("a POINT", x.tells(1, 0), 20 + 24);
        due.is("a RAY", x.tells(0, 11), 24 - 12 - 6);
        x.change(0, 1, 20);
        due.is("STOCK as it is", x.tells(0, 11), 24 - 60 - 6);
        due.part("Terms II (promise 27): \"A RAY BARS a PLAN, if it TELLS more than 0\"");
        SplitProgram y = with("plant 1 5 3;site;road 0 0 0;case 1 11", 1);
        due.is("it TELLS 1", y.tells(0, 2), 1);
        due.is("barred", y.floor(2), NO);
        y.need(0, 0, 10);
        due.is("it TELLS 0", y.tells(0, 2), 0);
        due.is("not barred", y.floor(2), 2);
        due.part("Terms II (promise 27): a POINT bars none");
        SplitProgram z = with(PAIR, 4);
        z.change(0, 1, 20);
        due.is("the RAY TELLS below 0, the POINT 27", z.floor(1), 5 + 2 * 27);
    }

    private static void reach() {
        due.part("Terms III (promise 27): REACH, \"the greatest that POINTS .. TELL of it\"");
        SplitProgram x = with(PAIR, 4);
        due.is("15 and 11", x.floor(5), 6 + 2 * 15);
        due.is("3 and 11", x.floor(9), 7 + 2 * 11);
        due.part("Terms III (promise 27): REACH, \"0 at least\"");
        SplitProgram y = with(PAIR, 2);
        y.change(1, 1, 20);
        due.is("it TELLS below 0", y.tells(1, 4), 27 - 80);
        due.is("the FEES alone", y.floor(4), 1);
        due.part("Terms III (promise 27): REACH, \"of that CASE\"");
        SplitProgram z = with(PAIR, 4);
        z.scene(9);
        due.is("another CASE adds nothing", z.floor(5), 6 + 2 * 15);
        z.need(1, 0, 1);
        due.is("though it NEEDS some", z.floor(5), 6 + 2 * 15);
        due.part("Terms III (promise 27): FLOOR, \"none, if a RAY among the CUTS BARS it\", of any CASE");
        SplitProgram r = Due.from("plant 1 5 3;site;road 0 0 0;case 1 4;case 1 9");
        r.terms(0, 1);
        due.is("the RAY of CASE 1", r.round() * 10 + r.cut(0, 0), 11);
        due.is("barred for all", r.floor(1), NO);
        due.is("not barred", r.floor(2), 2);
    }

    private static void allPlans() {
        int[][] mosts = {{3, 2, 1, 0}, {0, 1, 2, 3}, {1, 3, 0, 2}, {2, 0, 3, 1}, {3, 3, 3, 3}};
        for (int[] most : mosts) {
            due.part("Terms III (promise 27): FLOOR of all PLANS there are, MOST " + java.util.Arrays.toString(most));
            SplitProgram x = new SplitProgram();
            x.site();
            x.scene(3);
            x.need(0, 0, 12);
            for (int p = 0; p < 4; p++) {
                x.plant(1 + p, 4, most[p]);
                x.road(p, 0, 7);
            }
            due.is("a RAY, a POINT", x.round() + x.round(), 2);
            int found = 0;
            for (int plan = 0; plan < 256; plan++) {
                int a = plan % 4;
                int b = plan / 4 % 4;
                int c = plan / 16 % 4;
                int d = plan / 64;
                boolean can = a <= most[0] && b <= most[1] && c <= most[2] && d <= most[3];
                found += can ? 1 : 0;
                int fees = a + 2 * b + 3 * c + 4 * d;
                due.is("floor(" + plan + ")", x.floor(plan), can && a + b + c + d >= 3 ? fees + 3 * 84 : NO);
            }
            due.is("PLANS", x.count(4), found);
        }
    }

    private static void master() {
        due.part("Terms III (promise 13): \"the PLAN with the least FLOOR (the lowest)\"");
        SplitProgram x = Due.from("plant 0 5 2;plant 0 5 2;site;road 0 0 1;road 1 0 1;case 1 5");
        x.round();
        due.is("of all PLANS of FLOOR 0", x.now(4), 0);
        x.round();
        due.is("of all that are not barred", x.now(4), 1);
        SplitProgram y = Due.from("plant 9 5 2;plant 8 5 2;site;road 0 0 1;road 1 0 1;case 1 5");
        y.go(2);
        due.is("the least is not the lowest", y.now(4), 4);
    }

    private static void noPlanLeft() {
        due.part("Terms III (promise 13): \"over: 2, there is no MASTER, nothing else is done but that the ROUND counts\"");
        SplitProgram x = Due.from("plant 1 5 1;site;road 0 0 1;case 1 6");
        x.terms(1, 1);
        due.is("plans 0, then none", x.go(99), 2);
        due.is("over", x.now(0), 2);
        due.is("no MASTER", x.now(4), NO);
        due.is("LOWER is as it was", x.now(1), 0);
        due.is("no UPPER", x.now(2), NO);
        due.is("AGE is as it was", x.cut(0, 2), 0);
        due.is("ROUNDS", x.now(5), 2);
        due.is("CUTS", x.now(6), 1);
        due.part("Terms III (promise 12): a CHANGED program can have a PLAN again");
        x.change(0, 1, 6);
        due.is("no MASTER, not over", x.now(0) * 10 + x.now(4), NO);
        due.is("go(99): the RAY still HOLDS and BARS plan 0", x.go(99), 2);
        due.is("over", x.now(0), 1);
        due.is("BEST", x.now(3), 1);
        due.part("Terms III (promise 13): no MASTER, though there was one, and UPPER can't be");
        SplitProgram y = with(BARE, 2);
        due.is("gap()", y.gap(), NO);
        due.is("BEST", y.now(3), NO);
    }

    private static void tight() {
        due.part("Terms III (promise 21): TIGHT, \"a RAY, if it TELLS 0\"");
        SplitProgram x = with("plant 1 5 3;site;road 0 0 1;case 1 10", 2);
        due.is("MASTER", x.now(4), 2);
        due.is("it TELLS 0: AGE", x.cut(0, 2), 0);
        SplitProgram y = with("plant 1 5 3;site;road 0 0 1;case 1 9", 2);
        due.is("it TELLS -1: AGE", y.cut(0, 2), 1);
        due.part("Terms III (promise 21): TIGHT, \"a POINT, if it TELLS what REACH of its CASE is\"");
        SplitProgram z = with(PAIR, 3);
        due.is("MASTER 9, REACH 3 ahead of the new CUT", z.cut(1, 2), 0);
        z.round();
        due.is("MASTER 9, REACH 11: CUT 1 is not, one more", z.cut(1, 2), 1);
        due.is("CUT 2 is", z.cut(2, 2), 0);
        SplitProgram low = with(PAIR, 2);
        low.change(1, 1, 20);
        low.round();
        due.is("MASTER", low.now(4), 4);
        due.is("a POINT below 0 is not TIGHT, though REACH is 0", low.cut(1, 2), 1);
        SplitProgram zero = with(PAIR, 4);
        zero.need(0, 0, 0);
        zero.need(0, 1, 0);
        zero.round();
        due.is("MASTER", zero.now(4), 0);
        due.is("POINTS and a RAY that TELL 0 are", zero.cut(0, 2) + zero.cut(1, 2) + zero.cut(2, 2), 0);
        due.part("Terms III (promise 21): \"NEW CUTS, of AGE 0\", and TIGHT again: 0 again");
        SplitProgram again = Due.from(PAIR);
        again.terms(1, 9);
        again.go(3);
        due.is("the new one", again.cut(2, 2), 0);
        due.is("the RAY", again.cut(0, 2), 1);
        again.need(0, 0, 2);
        due.is("young by CHANGED", again.cut(0, 2), 0);
        SplitProgram anew = with(PAIR, 4);
        due.is("an old RAY", anew.cut(0, 2), 2);
        anew.clear();
        anew.round();
        due.is("a new one in its place", anew.cut(0, 2), 0);
    }

    private static void rises() {
        due.part("Terms III (promise 19): RISES, \"FLOOR is above LOWER, or there was no LOWER; LOWER is FLOOR then\"");
        SplitProgram x = Due.from("plant 20 6 1;site;road 0 0 1;case 1 5");
        x.terms(1, 1);
        x.round();
        due.is("there was none", x.now(1), 0);
        x.round();
        due.is("above", x.now(1), 20);
        due.is("the RAY went", x.now(8), 1);
        due.is("a RAY comes again", x.round(), 1);
        due.is("MASTER", x.now(4), 0);
        due.is("FLOOR was 5, LOWER stays", x.now(1), 20);
        x.round();
        due.is("LOWER", x.now(1), 25);
        due.is("over", x.now(0), 1);
        due.part("Terms III (promise 19): a FLOOR that is LOWER does not rise");
        SplitProgram y = Due.from("plant 0 6 1;site;road 0 0 1;case 1 5");
        y.terms(1, 1);
        y.go(2);
        due.is("AGE of the RAY is KEEP", y.cut(0, 2), 1);
        due.is("it stays", y.now(6), 2);
        due.is("none went", y.now(8), 0);
    }

    private static void goByAge() {
        String text = "plant 1 6 1;site;road 0 0 1;case 1 5";
        due.part("Terms III (promise 19): \"CUTS of an AGE of KEEP and more go\"");
        SplitProgram x = Due.from(text);
        x.terms(1, 1);
        x.go(2);
        due.is("AGE 1, KEEP 1", x.now(8), 1);
        due.is("the POINT alone", x.now(6) * 10 + x.now(7), 10);
        SplitProgram y = Due.from(text);
        y.terms(1, 2);
        y.go(2);
        due.is("AGE 1, KEEP 2", y.now(8), 0);
        due.part("Terms III (promise 19): \"CUTS of an AGE of KEEP and more go\", the others stay with their AGE");
        SplitProgram older = Due.from("plant 9 6 3;plant 3 8 3;site;road 0 0 1;road 1 0 5;case 2 2");
        older.terms(1, 2);
        older.go(3);
        due.is("plans 0, 4, 1: the RAY, of AGE 2, went", older.now(8) * 10 + older.now(7), 10);
        due.is("a POINT of AGE 1 is the first now", older.cut(0, 3) * 10 + older.cut(0, 2), 41);
        due.is("the new one", older.cut(1, 3) * 10 + older.cut(1, 2), 0);
        due.part("Terms III (promise 19): \"if it RISES and KEEP is not 0\"");
        SplitProgram z = with(text, 2);
        due.is("AGE 1, KEEP 0", z.now(8), 0);
        due.is("CUTS", z.now(6), 2);
        due.part("Terms III (promise 19): none go in a ROUND by which it is over");
        SplitProgram over = Due.from(PAIR);
        over.terms(1, 1);
        due.is("go(99)", over.go(99), 7);
        due.is("it rose", over.now(1), 29);
        due.is("AGES of KEEP", over.cut(1, 2) + over.cut(2, 2), 2);
        due.is("CUTS", over.now(6), 3);
        due.part("Terms III (promise 21): \"then NEW ones come behind the others\", which keep their order");
        SplitProgram w = with(PAIR, 3);
        due.is("a RAY, then POINTS", w.cut(0, 1) * 100 + w.cut(1, 1) * 10 + w.cut(2, 1), 100);
        due.is("u of these", w.cut(1, 4) * 10 + w.cut(2, 4), 40);
        SplitProgram v = Due.from(PAIR);
        v.terms(1, 1);
        v.go(3);
        due.is("the first went", v.cut(0, 4) * 10 + v.cut(1, 4), 40);
    }

    private static void upper() {
        due.part("Terms III (promise 19): \"TOTAL is below UPPER, or there is no UPPER: UPPER is TOTAL, BEST the MASTER\"");
        SplitProgram x = Due.from("plant 1 5 1;plant 6 10 1;site;road 0 0 2;road 1 0 1;case 1 5");
        x.go(2);
        due.is("there was none", x.now(2) * 10 + x.now(3), 111);
        x.round();
        due.is("another MASTER of TOTAL 11", x.now(4) * 100 + x.total(4), 411);
        due.is("which is not below", x.now(2) * 10 + x.now(3), 111);
        SplitProgram y = with(PAIR, 2);
        due.is("UPPER, BEST", y.now(2) * 10 + y.now(3), 365);
        y.round();
        due.is("below", y.now(2) * 10 + y.now(3), 299);
        due.part("Terms III (promise 19): \"If no CASE FAILS\"");
        SplitProgram z = with("plant 1 5 3;site;road 0 0 1;case 1;case 1 1", 1);
        due.is("one FAILS, the other does not", z.now(2), NO);
        due.is("BEST", z.now(3), NO);
    }

    private static void newCuts() {
        due.part("Terms III (promise 13): NEW CUTS, \"of each CASE that FAILS its RAY\", by rising CASES");
        SplitProgram x = Due.from("plant 1 9 3;site;road 0 0 2;case 1 5;case 1;case 1 7");
        due.is("two", x.round(), 2);
        due.is("of CASES 0 and 2", x.cut(0, 0) * 10 + x.cut(1, 0), 2);
        due.is("RAYS", x.now(7), 2);
        due.part("Terms III (promise 13): NEW CUTS, \"of each other one the PRICE of which is above REACH its POINT\"");
        due.is("two", x.round(), 2);
        due.is("CASE 1, of PRICE 0, brings none", x.cut(2, 0) * 10 + x.cut(3, 0), 2);
        due.is("POINTS", x.now(6) - x.now(7), 2);
        due.part("Terms III (promise 13): a CASE the PRICE of which is REACH brings none");
        SplitProgram y = with("plant 1 9 3;site;road 0 0 2;case 1 5", 3);
        y.scene(1);
        y.need(1, 0, 3);
        due.is("CASE 1 alone", y.round() * 10 + y.cut(y.now(6) - 1, 0), 11);
        due.part("Terms III (promise 13): POINTS and RAYS in one ROUND, by rising CASES all the same");
        SplitProgram z = with(BOTH, 1);
        due.is("RAYS of both", z.now(7), 2);
        due.is("two come", z.round(), 2);
        due.is("MASTER", z.now(4), 1);
        due.is("the POINT of CASE 0", z.cut(2, 0) * 10 + z.cut(2, 1), 0);
        due.is("the RAY of CASE 1", z.cut(3, 0) * 10 + z.cut(3, 1), 11);
        due.is("of SITE 1 alone", z.cut(3, 7) * 10 + z.cut(3, 8), 1);
    }

    private static void wayOne() {
        due.part("Terms III (promise 13): WAY 1, \"the RAY of the greatest LACK\", \"(the lowest CASE)\"");
        SplitProgram x = Due.from("plant 1 20 3;site;road 0 0 2;case 9 5;case 1 8;case 1 8;case 9 7");
        x.terms(0, 1);
        due.is("one", x.round(), 1);
        due.is("of CASE 1", x.cut(0, 0), 1);
        due.part("Terms III (promise 13): WAY 1, \"the POINT by which WEIGHT times what PRICE is above REACH is the greatest\"");
        due.is("90, 16, 16, 126: one", x.round(), 1);
        due.is("of CASE 3", x.cut(1, 0), 3);
        x.round();
        due.is("then of CASE 0", x.cut(2, 0), 0);
        x.round();
        due.is("of two with 16 the lowest", x.cut(3, 0), 1);
        x.round();
        due.is("the other", x.cut(4, 0), 2);
        due.is("over", x.round() * 10 + x.now(0), 1);
        due.part("Terms III (promise 13): WAY 1, ROOM for one by one");
        SplitProgram five = Due.from("plant 1 20 3;site;road 0 0 2;case 9 5;case 1 8;case 1 8;case 9 7");
        five.terms(0, 1);
        five.terms(3, 4);
        due.is("go(99): four come", five.go(99), 4);
        due.refused("the fifth", five, -5, SplitProgram::round);
        five.terms(3, 5);
        due.is("ROOM 5", five.round(), 1);
        due.is("over", five.round() * 10 + five.now(0), 1);
        SplitProgram six = Due.from("plant 1 20 3;plant 1 20 3;site;site;road 0 0 2;road 1 1 2;case 1 5;case 1 6;"
            + "case 1 0 7;case 1 0 8");
        six.terms(0, 1);
        six.terms(3, 4);
        due.is("RAYS of CASES 3 and 1, POINTS of 3 and 2", six.go(99), 4);
        due.is("their CASES", six.cut(0, 0) * 1000 + six.cut(1, 0) * 100 + six.cut(2, 0) * 10 + six.cut(3, 0), 3132);
        due.refused("one of two that are left", six, -5, SplitProgram::round);
        due.part("Terms III (promise 13): WAY 1, \"or, without a RAY, the POINT\"");
        SplitProgram y = Due.from(BOTH);
        y.terms(0, 1);
        due.is("the RAY of CASE 1, of LACK 4", y.round() * 10 + y.cut(0, 0), 11);
        due.is("one comes", y.round(), 1);
        due.is("MASTER", y.now(4), 1);
        due.is("CASE 0 is dear by 9 times 297, but CASE 1 FAILS by 1", y.cut(1, 0) * 10 + y.cut(1, 1), 11);
        due.is("one comes", y.round(), 1);
        due.is("MASTER", y.now(4), 4);
        due.is("both lack 3: the RAY of CASE 0", y.cut(2, 0) * 10 + y.cut(2, 1), 1);
        due.is("one comes", y.round(), 1);
        due.is("MASTER", y.now(4), 5);
        due.is("none FAILS: the POINT of CASE 0", y.cut(3, 0) * 10 + y.cut(3, 1), 0);
    }

    private static void overInOrder() {
        due.part("Terms III (promise 19): 1 is ahead of 3");
        SplitProgram x = new SplitProgram();
        x.terms(2, 1000);
        x.round();
        due.is("bounds meet, and the gap is small", x.now(0), 1);
        due.part("Terms III (promise 19): \"LOWER is not below it\", \"no CUT comes\"");
        SplitProgram y = with(PAIR, 3);
        due.is("CUTS", y.now(6), 3);
        due.is("round()", y.round(), 0);
        due.is("CUTS", y.now(6), 3);
        due.part("Terms III (promise 19): 3, \"no CUT comes\", but UPPER, BEST, LOWER, AGES move");
        SplitProgram z = with(PAIR, 2);
        z.terms(2, 1000);
        due.is("round()", z.round(), 0);
        due.is("over", z.now(0), 3);
        due.is("CUTS", z.now(6), 2);
        due.is("LOWER", z.now(1), 13);
        due.is("UPPER", z.now(2), 29);
        due.is("BEST", z.now(3), 9);
        due.is("AGE", z.cut(0, 2), 1);
        due.part("Terms III (promise 19): without UPPER there is no GAP that is small");
        SplitProgram w = Due.from(PAIR);
        w.terms(2, 1000);
        due.is("round()", w.round(), 1);
        due.is("not over", w.now(0), 0);
    }

    private static int overBy(String text, int tolerance) {
        SplitProgram x = Due.from(text);
        x.terms(2, tolerance);
        x.go(2);
        return x.now(0);
    }

    private static void gapAsFloats() {
        due.part("Terms III (promise 19): \"GAP is not above TOLERANCE by 1,000\"");
        String half = "plant 1 1 1;site;road 0 0 1;case 1 1";
        due.is("0.5 by 500", overBy(half, 500), 3);
        due.is("0.5 by 499", overBy(half, 499), 0);
        due.is("0.5 by 501", overBy(half, 501), 3);
        due.is("0.5 by 0", overBy(half, 0), 0);
        for (int k = 1; k <= 99; k++) {
            String text = "plant " + (1000 - k) + " 1 1;site;road 0 0 " + k + ";case 1 1";
            due.is(k + " by 1000: TOLERANCE " + k, overBy(text, k), 3);
            due.is(k + " by 1000: TOLERANCE " + (k - 1), overBy(text, k - 1), 0);
            text = "plant " + (500 - k) + " 1 1;site;road 0 0 " + k + ";case 1 1";
            due.is(k + " by 500: TOLERANCE " + 2 * k, overBy(text, 2 * k), 3);
            due.is(k + " by 500: TOLERANCE " + (2 * k - 1), overBy(text, 2 * k - 1), 0);
        }
        due.part("Terms III (promise 19): \"as float numbers\"");
        String far = "plant 51 20 3;plant 50 20 3;site;site;site;site;site;site;road 0 0 70;road 0 1 70;road 0 2 70;"
            + "road 1 3 70;road 1 4 70;road 1 5 70;case 9 20 20 20 20 20 20;case 9 20 20 20 20 20 20";
        SplitProgram x = with(far, 2);
        due.is("LOWER", x.now(1), 303);
        due.is("UPPER", x.now(2), 151503);
        due.is("151200 by 151503 is above 0.998, but not as a float", overBy(far, 998), 3);
        due.is("997", overBy(far, 997), 0);
        due.is("gap()", x.gap(), Float.floatToIntBits(0.998f));
        due.part("Terms III (promise 19): GAP of the least UPPER above 0");
        String one = "plant 0 1 1;site;road 0 0 1;case 1 1";
        due.is("1 by 1: TOLERANCE 999", overBy(one, 999), 0);
        due.is("1 by 1: TOLERANCE 1000", overBy(one, 1000), 3);
        due.is("gap()", with(one, 2).gap(), Float.floatToIntBits(1f));
        due.part("Terms III (promise 19): GAP \"(0, if UPPER is 0)\"");
        SplitProgram nothing = with("plant 0 5 1;site;road 0 0 0;case 1 5", 2);
        due.is("UPPER", nothing.now(2), 0);
        due.is("over", nothing.now(0), 1);
        due.is("gap()", nothing.gap(), 0);
    }

    private static void onPaper() {
        due.part("Terms III: what is asked on paper changes nothing (promises 23 to 32)");
        SplitProgram x = with(PAIR, 2);
        long[] before = Look.at(x);
        for (int plan = 0; plan < 12; plan++) {
            x.price(0, plan);
            x.lack(0, plan);
            x.rate(0, plan, 0);
            x.regret(plan);
            x.mean(plan);
        }
        x.exact(0);
        x.least(0);
        x.would(1, 1);
        due.same("all", Look.at(x), before);
        due.is("the rounds go on", x.go(99), 2);
        due.is("BEST", x.now(3), 9);
    }

    private static void reads(String text, int lines) {
        SplitProgram x = new SplitProgram();
        Due.put(x, text);
        due.is("read() of '" + text + "'", x.read(), lines);
        due.is("fault() of '" + text + "'", x.fault(), NO);
    }

    private static void faulty(String text, int at) {
        SplitProgram x = new SplitProgram();
        Due.put(x, text);
        due.is("read() of '" + text + "'", x.read(), -6);
        due.is("fault() of '" + text + "'", x.fault(), at);
    }

    private static void tokens() {
        due.part("Terms IV (promise 6): TOKENS, \"longest rows of letters a .. z\"");
        faulty("sitesite", 0);
        faulty("si te", 0);
        faulty("Site", 0);
        faulty("sitE", 0);
        faulty("plan", 0);
        faulty("scene 1", 0);
        faulty("a", 0);
        faulty("z", 0);
        faulty("sitez", 0);
        faulty("sitea", 0);
        faulty("site`", 4);
        faulty("site{", 4);
        faulty("xite", 0);
        faulty("xlant 1 1 1", 0);
        faulty("base 1", 0);
        faulty("plant 1 1 1;site;toad 0 0 1", 17);
        faulty("plant 1/1 1", 7);
        faulty("plant 1:1 1", 7);
        due.part("Terms IV (promise 6): TOKENS, \"of digits\"");
        reads("plant9 9 1", 1);
        reads("plant 0 1 0", 1);
        faulty("plant 111", 9);
        faulty("plant 1 2 31", 10);
        faulty("site1", 4);
        faulty("0", 0);
        due.part("Terms IV (promise 6): TOKENS, \"single other bytes\"");
        faulty("site;;", 5);
        faulty("site.;", 4);
        faulty("plant 1 -1 1", 8);
        faulty("plant 1.1 1", 7);
        faulty("site;site\u00e9", 9);
        faulty("\u00ff", 0);
        due.part("Terms IV (promise 6): TOKENS, \"any blanks (32) between\"");
        reads("   site   ;   site   ", 2);
        reads("plant1 1 1;site;road0 0 0;case1 1", 4);
        reads("case1;site", 2);
        faulty("site\t", 4);
        faulty("site\n", 4);
        faulty("\nsite", 0);
        faulty("site\u0000", 4);
        faulty("site\u00a0", 4);
    }

    private static void lines() {
        due.part("Terms IV (promise 5): \"LINE {\";\" LINE}\"");
        reads("site", 1);
        reads("site;site;site;site;site;site", 6);
        faulty("", 0);
        faulty(";", 0);
        faulty(";site", 0);
        faulty("site;", 5);
        faulty("site;;site", 5);
        faulty("site site", 5);
        faulty("plant 1 1 1 plant 1 1 1", 12);
        faulty("plant 1 1 1 1", 12);
        faulty("site 1", 5);
        faulty("case 1 site", 7);
        faulty("case 1 plant 1 1 1", 7);
        faulty("plant 1 1 1;site;road 0 0 1 1", 28);
        due.part("Terms IV (promise 5): \"{NEED}\" (NEEDS of SITES 0, 1 .. in order, those that are told by then)");
        SplitProgram x = Due.from("site;case 1;site;case 2 20;case 3 0 7;site");
        int[][] needs = {{0, 0, 0}, {20, 0, 0}, {0, 7, 0}};
        for (int c = 0; c < 3; c++) {
            for (int s = 0; s < 3; s++) {
                due.is("told(" + c + ", " + (1 + s) + ")", x.told(c, 1 + s), needs[c][s]);
            }
        }
        faulty("case 1 0", 7);
        faulty("site;case 1 0 0", 14);
        faulty("case 1 5;site", 7);
    }

    private static void numbers() {
        due.part("Terms IV (promise 6): \"a NUMBER that is none as told\" FEE");
        reads("plant 999 1 1", 1);
        faulty("plant 1000 1 1", 6);
        faulty("plant x 1 1", 6);
        faulty("plant ; 1 1", 6);
        due.part("Terms IV (promise 6): \"a NUMBER that is none as told\" SIZE");
        reads("plant 0 20 1", 1);
        faulty("plant 0 21 1", 8);
        faulty("plant 0 0 1", 8);
        faulty("plant 0 x 1", 8);
        due.part("Terms IV (promise 6): \"a NUMBER that is none as told\" MOST");
        reads("plant 0 1 3", 1);
        faulty("plant 0 1 4", 10);
        faulty("plant 0 1 ;", 10);
        due.part("Terms IV (promise 6): \"a NUMBER that is none as told\" TOLL");
        reads("plant 0 1 1;site;road 0 0 99", 3);
        reads("plant 0 1 1;site;road 0 0 0", 3);
        faulty("plant 0 1 1;site;road 0 0 100", 26);
        faulty("plant 0 1 1;site;road 0 0 ;", 26);
        due.part("Terms IV (promise 6): \"a NUMBER that is none as told\" WEIGHT");
        reads("case 1", 1);
        reads("case 9", 1);
        faulty("case 0", 5);
        faulty("case 10", 5);
        faulty("case ;", 5);
        due.part("Terms IV (promise 6): \"a NUMBER that is none as told\" NEED");
        reads("site;case 1 20", 2);
        faulty("site;case 1 21", 12);
        faulty("site;site;case 1 20 21", 20);
        faulty("site;case 1 x", 12);
        due.part("Terms IV (promise 6): \"a NUMBER that is none as told\" far too long, and wrapping round");
        faulty("plant " + "9".repeat(390) + " 1 1", 6);
        faulty("plant 4294967296 1 1", 6);
        faulty("plant 0 4294967297 1", 8);
        faulty("plant 0 18446744073709551617 1", 8);
        faulty("site;case 1 2147483648", 12);
    }

    private static void notToldByThen() {
        due.part("Terms IV (promise 6): \"a PLANT, a SITE that is not told by then\"");
        faulty("road 0 0 1", 5);
        faulty("site;road 0 0 1", 10);
        faulty("plant 1 1 1;road 0 0 1", 19);
        faulty("plant 1 1 1;site;road 1 0 1", 22);
        faulty("plant 1 1 1;site;road 0 1 1", 24);
        faulty("plant 1 1 1;site;road 1 0 1;plant 1 1 1", 22);
        faulty("plant 1 1 1;site;road 0 1 1;site", 24);
        faulty("plant 1 1 1;site;road 0 4294967296 1", 24);
        faulty("plant 1 1 1;site;road x 0 1", 22);
        faulty("plant 1 1 1;site;road 0 x 1", 24);
        due.part("Terms IV (promise 6): \"a ROAD told twice (the SITE)\"");
        faulty("plant 1 1 1;site;road 0 0 1;road 0 0 1", 35);
        faulty("plant 1 1 1;site;road 0 0 0;road 0 0 0", 35);
        faulty("plant 1 1 1;site;road 0 0 1;road 0 0 100", 35);
        faulty("plant 1 1 1;site;road 0 0 1;road 0 0", 35);
        reads("plant 1 1 1;plant 1 1 1;site;site;road 0 1 5;road 1 0 5;road 0 0 5;road 1 1 5", 8);
    }

    private static void oneMoreThanCanBe() {
        due.part("Terms IV (promise 6): \"the word of a LINE that is one more PLANT .. than can be\"");
        String four = "plant 1 1 1;plant 1 1 1;plant 1 1 1;plant 1 1 1";
        reads(four, 4);
        faulty(four + ";plant 1 1 1", 48);
        faulty(four + ";  plant", 50);
        faulty(four + ";plant 1000 1 1", 48);
        due.part("Terms IV (promise 6): \"the word of a LINE that is one more .. SITE .. than can be\"");
        faulty("site;site;site;site;site;site;site", 30);
        due.part("Terms IV (promise 6): \"the word of a LINE that is one more .. CASE than can be\"");
        reads("case 1;case 1;case 1;case 1", 4);
        faulty("case 1;case 1;case 1;case 1;case 1", 28);
        faulty("case 1;case 1;case 1;case 1;case 0", 28);
        due.part("Terms IV (promise 6): \"a NEED more than SITES\"");
        faulty("site;site;case 1 1 1 1", 21);
        faulty("site;site;case 1 1 1 99", 21);
        reads("site;site;case 1 1 1", 3);
        SplitProgram x = new SplitProgram();
        Due.put(x, "site;site;site;site;site;site;case 1 1 2 3 4 5 6 7");
        due.is("read()", x.read(), -6);
        due.is("a seventh NEED", x.fault(), 49);
    }

    private static void faultAtTheEnd() {
        due.part("Terms IV (promise 6): \"(the end's: the TEXT's length)\"");
        faulty("plant", 5);
        faulty("plant  ", 7);
        faulty("plant 1", 7);
        faulty("plant 1 1", 9);
        faulty("plant 1 1 ", 10);
        faulty("road", 4);
        faulty("plant 1 1 1;site;road 0", 23);
        faulty("plant 1 1 1;site;road 0 0", 25);
        faulty("case", 4);
        faulty("site;", 5);
        faulty("site;   ", 8);
        faulty("site;" + " ".repeat(395), 400);
        due.part("Terms IV (promise 6): \"the first TOKEN that can't go on\"");
        faulty("site;x;y", 5);
        faulty("plant 1000 0 9", 6);
        faulty("plant 1 0 9", 8);
    }

    private static void images() {
        due.part("Terms IV (promises 33, 34): \"IMAGES 0, 1 keep all\", apart from each other and from what comes");
        SplitProgram x = with(PAIR, 1);
        x.terms(1, 1);
        x.image(0);
        x.go(2);
        x.terms(1, 2);
        x.image(1);
        x.clear();
        x.change(0, 0, 9);
        for (int n = 0; n < 2; n++) {
            due.is("back(0)", x.back(0), 0);
            due.is("rounds, CUTS, RAYS, KEEP", x.now(5) * 1000 + x.now(6) * 100 + x.now(7) * 10 + x.count(14), 1111);
            due.is("FEE", x.of(0, 0), 5);
            x.go(99);
            due.is("back(1)", x.back(1), 0);
            due.is("rounds, CUTS, RAYS, KEEP", x.now(5) * 1000 + x.now(6) * 100 + x.now(7) * 10 + x.count(14), 3202);
            due.is("went", x.now(8), 1);
            x.go(99);
        }
        due.part("Terms IV (promises 33, 34): an IMAGE of what is over, of a new object");
        SplitProgram y = new SplitProgram();
        y.image(1);
        Due.put(y, PAIR);
        y.read();
        y.go(99);
        y.image(0);
        due.is("back(1)", y.back(1), 0);
        due.is("no PLANT", y.count(0), 0);
        due.is("not over", y.now(0), 0);
        due.is("back(0)", y.back(0), 0);
        due.is("over", y.now(0), 1);
        due.is("round()", y.round(), -3);
        due.is("exact(0)", y.exact(0), 3);
        due.is("total(9)", y.total(9), 29);
        due.part("Terms IV (promise 34): CUTS of the CASES they were of");
        SplitProgram two = Due.from("plant 1 9 3;site;road 0 0 2;case 1 5;case 1 7");
        two.round();
        two.image(0);
        two.clear();
        two.terms(0, 1);
        two.round();
        due.is("the RAY of CASE 1 is the first", two.cut(0, 0), 1);
        two.back(0);
        due.is("CASES 0, 1", two.cut(0, 0) * 10 + two.cut(1, 0), 1);
        due.is("it TELLS as it did", two.tells(0, 0) * 10 + two.tells(1, 0), 57);
        due.part("Terms IV (promise 34): REFUSED, all stays, what can be undone too");
        SplitProgram z = with(PAIR, 2);
        due.refused("back(0)", z, -2, t -> t.back(0));
        due.is("count(5)", z.count(5), 2);
        due.is("undo()", z.undo(), 8);
    }
}
