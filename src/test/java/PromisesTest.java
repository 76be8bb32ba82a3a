/**
 * Each promise by its number: ordinary inputs, the edges the document names, wrong inputs.
 * The answers were found by hand.
 *
 * <p>PAIR, by hand: case 0 lacks 7 by plan 0, 3 by plan 1 (both sites), 4 by plan 4 (both), 3 by
 * plan 8 (site 0 alone); its price is 15 by plans 5 and 6, 11 by plans 9 and 10. The rounds take
 * plans 0, 5, 9, 9; the total of 9 is 29.
 */
public final class PromisesTest {
    private static final int NO = SplitProgram.NONE;
    private static final String PAIR =
        "plant 5 4 3;plant 1 3 2;site;site;road 0 0 1;road 0 1 6;road 1 1 2;case 2 3 4";
    private static final Due due = new Due();

    public static void main(String[] args) {
        newObject();
        terms();
        tape();
        reading();
        faults();
        plants();
        sites();
        roads();
        scenes();
        needs();
        changes();
        rounds();
        aging();
        ways();
        going();
        clearing();
        undoing();
        told();
        bounds();
        cuts();
        alone();
        paper();
        woulds();
        images();
        counts();
        statuses();
        due.close();
    }

    private static SplitProgram pair() {
        return Due.from(PAIR);
    }

    private static void newObject() {
        due.part("1 a new object");
        SplitProgram x = new SplitProgram();
        due.is("NONE", SplitProgram.NONE, -1);
        int[] want = {0, 0, 0, 0, 1, 0, 0, 0, 0, 0, 0, 0, 0, 0, 0, 0, 40, -1};
        for (int what = 0; what < want.length; what++) {
            due.is("count(" + what + ")", x.count(what), want[what]);
        }
        int[] now = {0, NO, NO, NO, NO, 0, 0, 0, 0, NO};
        for (int what = 0; what < now.length; what++) {
            due.is("now(" + what + ")", x.now(what), now[what]);
        }
        due.is("status()", x.status(), 0);
        due.is("fault()", x.fault(), NO);
        due.is("gap()", x.gap(), NO);
        due.is("round()", x.round(), 0);
        due.is("now(0)", x.now(0), 1);
        due.is("now(2)", x.now(2), 0);
        due.is("gap()", x.gap(), 0);
    }

    private static void terms() {
        due.part("2 terms");
        SplitProgram x = new SplitProgram();
        int[] low = {0, 0, 0, 4};
        int[] high = {1, 9, 1000, 40};
        int[] first = {0, 0, 0, 40};
        for (int what = 0; what < 4; what++) {
            due.is("what it was", x.terms(what, low[what]), first[what]);
            due.is("the highest", x.terms(what, high[what]), low[what]);
            due.is("the same", x.terms(what, high[what]), high[what]);
            due.is("too low", x.terms(what, low[what] - 1), -1);
            due.is("too high", x.terms(what, high[what] + 1), -1);
            due.is("it stays", x.count(13 + what), high[what]);
        }
        due.is("terms(-1, 0)", x.terms(-1, 0), -1);
        due.is("terms(4, 4)", x.terms(4, 4), -1);
        due.is("refused by -1", x.count(7), 10);
        due.is("nothing to undo", x.undo(), -4);
        SplitProgram y = pair();
        y.terms(2, 552);
        due.is("go(99)", y.go(99), 3);
        due.is("over by the gap", y.now(0), 3);
        y.terms(2, 0);
        due.is("what is over stays so", y.now(0), 3);
        due.is("round()", y.round(), -3);
    }

    private static void tape() {
        due.part("3 feed, 4 end");
        SplitProgram x = new SplitProgram();
        due.is("end(0)", x.end(0), 0);
        due.is("end(1)", x.end(1), NO);
        for (int n = 1; n <= 20; n++) {
            due.is("feed " + n, x.feed(0x73697465, 0x20202020, 0x20202020, 0x20202020, 0x20202020), 20 * n);
        }
        due.is("one more", x.feed(0, 0, 0, 0, 0), NO);
        due.is("count(6)", x.count(6), 400);
        due.is("end(401)", x.end(401), NO);
        due.is("end(-1)", x.end(-1), NO);
        due.is("end(400)", x.end(400), 400);
        due.is("end(381)", x.end(381), 381);
        due.is("no room for twenty", x.feed(0, 0, 0, 0, 0), NO);
        due.is("end(380)", x.end(380), 380);
        due.is("room again", x.feed(0, 0, 0, 0, 0), 400);
        due.is("end(20)", x.end(20), 20);
        due.is("not refused", x.status() + x.count(7), 0);
        due.is("the highest byte first", x.read(), 1);
        due.is("a site", x.count(1), 1);
        due.is("empty then", x.count(6), 0);
        x.feed(0x73697465, 0xE9202020, -1, Integer.MIN_VALUE, Integer.MAX_VALUE);
        due.is("bytes above 127", x.read(), -6);
        due.is("fault()", x.fault(), 4);
    }

    private static void reading() {
        due.part("5 read");
        SplitProgram x = pair();
        due.is("count(0)", x.count(0), 2);
        due.is("count(1)", x.count(1), 2);
        due.is("count(2)", x.count(2), 1);
        due.is("count(3)", x.count(3), 3);
        due.is("fault()", x.fault(), NO);
        x.terms(1, 3);
        x.image(1);
        x.go(99);
        Due.put(x, "  plant007 20  3 ;site;site;road0 1 99;case9 20 0;case 1");
        due.is("read()", x.read(), 6);
        due.is("status()", x.status(), 0);
        due.is("of(0, 0)", x.of(0, 0), 7);
        due.is("of(0, 1)", x.of(0, 1), 20);
        due.is("of(0, 2)", x.of(0, 2), 3);
        due.is("of(0, 3)", x.of(0, 3), NO);
        due.is("of(0, 4)", x.of(0, 4), 99);
        due.is("count(0)", x.count(0), 1);
        due.is("told(0, 1)", x.told(0, 1), 20);
        due.is("told(1, 0)", x.told(1, 0), 1);
        due.is("told(1, 1)", x.told(1, 1), 0);
        due.is("cuts", x.now(6), 0);
        due.is("over", x.now(0), 0);
        due.is("rounds", x.now(5), 0);
        due.is("terms stay", x.count(14), 3);
        due.is("images stay", x.back(1), 0);
        due.is("count(0)", x.count(0), 2);
        Due.put(x, "site;site x");
        due.is("read()", x.read(), -6);
        due.is("status()", x.status(), -6);
        due.is("count(12)", x.count(12), 1);
        due.is("the program stays", x.count(0), 2);
        due.is("the tape is empty", x.count(6), 0);
        Due.put(x, "case 1;site");
        due.is("a site behind a case", x.read(), 2);
        due.is("it needs 0", x.told(0, 1), 0);
        due.is("fault()", x.fault(), NO);
    }

    private static void fault(String text, int at) {
        SplitProgram x = new SplitProgram();
        Due.put(x, text);
        due.is("read() of " + text, x.read(), -6);
        due.is("fault() of " + text, x.fault(), at);
    }

    private static void faults() {
        due.part("6 fault");
        fault("", 0);
        fault("   ", 3);
        fault(";", 0);
        fault("site;", 5);
        fault("site; ", 6);
        fault("site ;;site", 6);
        fault("site site", 5);
        fault("sites", 0);
        fault("plantz 1 1 1", 0);
        fault("plant{1 1 1", 5);
        fault("plant`1 1 1", 5);
        fault("plant 1:1 1", 7);
        fault("plant 1/1 1", 7);
        fault("sit", 0);
        fault("Site", 0);
        fault("7", 0);
        fault("plant", 5);
        fault("plant 1000 1 1", 6);
        fault("plant 0 0 1", 8);
        fault("plant 0 21 1", 8);
        fault("plant 0 1 4", 10);
        fault("plant 0 1", 9);
        fault("plant 0 1 1 1", 12);
        fault("plant 4294967297 1 1", 6);
        fault("plant 99999999999999999999999999 1 1", 6);
        fault("plant -1 1 1", 6);
        fault("plant 1 1 1;plant 1 1 1;plant 1 1 1;plant 1 1 1;plant 1 1 1", 48);
        fault("plant 1 1 1;plant 1 1 1;plant 1 1 1;plant 1 1 1;plant x", 48);
        fault("site;site;site;site;site;site;site", 30);
        fault("case 1;case 1;case 1;case 1;case 1", 28);
        fault("road 0 0 1", 5);
        fault("plant 1 1 1;road 0 0 1", 19);
        fault("plant 1 1 1;site;road 1 0 1", 22);
        fault("plant 1 1 1;site;road 0 1 1", 24);
        fault("plant 1 1 1;site;road 0 0 100", 26);
        fault("plant 1 1 1;site;road 0 0", 25);
        fault("plant 1 1 1;site;road 0 0 1;road 0 0 x", 35);
        fault("plant 1 1 1;site;road 0 0 1;road 0 00 1", 35);
        fault("case 0", 5);
        fault("case 10", 5);
        fault("case 1 5", 7);
        fault("site;case 1 21", 12);
        fault("site;case 1 5 0", 14);
        fault("site;case 1,5", 11);
        fault("site;case 1 5 x", 14);
        fault("site;case 1\n", 11);
        SplitProgram x = new SplitProgram();
        Due.put(x, "x");
        x.read();
        due.is("fault()", x.fault(), 0);
        Due.put(x, "site");
        x.read();
        due.is("none any more", x.fault(), NO);
    }

    private static void plants() {
        due.part("7 plant");
        SplitProgram x = new SplitProgram();
        due.is("plant(-1, 1, 0)", x.plant(-1, 1, 0), -1);
        due.is("plant(1000, 1, 0)", x.plant(1000, 1, 0), -1);
        due.is("plant(0, 0, 0)", x.plant(0, 0, 0), -1);
        due.is("plant(0, 21, 0)", x.plant(0, 21, 0), -1);
        due.is("plant(0, 1, -1)", x.plant(0, 1, -1), -1);
        due.is("plant(0, 1, 4)", x.plant(0, 1, 4), -1);
        due.is("count(0)", x.count(0), 0);
        due.is("plant(0, 1, 0)", x.plant(0, 1, 0), 0);
        due.is("plant(999, 20, 3)", x.plant(999, 20, 3), 1);
        due.is("plant(1, 2, 3)", x.plant(1, 2, 3), 2);
        due.is("plant(4, 5, 1)", x.plant(4, 5, 1), 3);
        due.is("one more", x.plant(4, 5, 1), -5);
        due.is("-1 ahead of -5", x.plant(4, 5, 4), -1);
        due.is("plans", x.count(4), 1 * 4 * 4 * 2);
        due.is("plan 124", x.total(124), 3 * 999 + 3 * 1 + 4);
        due.is("plan 125", x.total(125), NO);
        SplitProgram y = pair();
        y.go(99);
        due.is("changed", y.plant(1, 1, 1), 2);
        due.is("not over", y.now(0), 0);
        due.is("no lower", y.now(1), NO);
        due.is("cuts stay", y.now(6), 3);
        due.is("u of the later plant", y.cut(0, 5), 0);
        due.is("young again", y.cut(0, 2), 0);
    }

    private static void sites() {
        due.part("8 site");
        SplitProgram x = pair();
        for (int s = 2; s < 6; s++) {
            due.is("site()", x.site(), s);
        }
        due.is("one more", x.site(), -5);
        due.is("status()", x.status(), -5);
        due.is("need at first", x.told(0, 6), 0);
        due.is("no road at first", x.of(0, 8), NO);
        SplitProgram y = pair();
        y.go(99);
        due.is("changed", y.site(), 2);
        due.is("no upper", y.now(2), NO);
        due.is("cuts stay", y.now(6), 3);
        due.is("v of the later site", y.cut(0, 9), 0);
    }

    private static void roads() {
        due.part("9 road");
        SplitProgram x = pair();
        due.is("there is one", x.road(0, 0, 1), -4);
        due.is("another toll", x.road(0, 0, 99), 2);
        due.is("none", x.road(0, 0, -1), 100);
        due.is("none any more", x.road(0, 0, -1), -4);
        due.is("a road of toll 0", x.road(0, 0, 0), 0);
        due.is("its toll was 0", x.road(0, 0, 1), 1);
        due.is("-2", x.road(-1, 0, 0), -2);
        due.is("no such road yet", x.road(1, 0, -2), -1);
        due.is("road(0, 0, 100)", x.road(0, 0, 100), -1);
        due.is("-1 ahead of -2", x.road(9, 9, 100), -1);
        due.is("road(2, 0, 1)", x.road(2, 0, 1), -2);
        due.is("road(0, 2, 1)", x.road(0, 2, 1), -2);
        due.is("road(0, -1, 1)", x.road(0, -1, 1), -2);
        due.is("count(3)", x.count(3), 3);
        SplitProgram y = pair();
        y.go(99);
        due.is("a road that all cuts bear", y.road(0, 1, 7), 7);
        due.is("cuts", y.now(6), 3);
        due.is("a point does not hold", y.road(1, 1, 1), 3);
        due.is("cuts", y.now(6), 1);
        due.is("the ray is left", y.cut(0, 1), 1);
        due.is("not over", y.now(0), 0);
        SplitProgram z = pair();
        z.terms(1, 1);
        z.go(4);
        due.is("the latest ray has site 0 alone", z.cut(1, 7) * 10 + z.cut(1, 8), 10);
        due.is("a new road to it", z.road(1, 0, 99), 0);
        due.is("the ray does not hold, the point does", z.now(6) * 10 + z.now(7), 10);
    }

    private static void scenes() {
        due.part("10 scene");
        SplitProgram x = new SplitProgram();
        due.is("scene(0)", x.scene(0), -1);
        due.is("scene(10)", x.scene(10), -1);
        due.is("scene(1)", x.scene(1), 0);
        due.is("scene(9)", x.scene(9), 1);
        due.is("scene(2)", x.scene(2), 2);
        due.is("scene(2)", x.scene(2), 3);
        due.is("one more", x.scene(2), -5);
        due.is("-1 ahead of -5", x.scene(0), -1);
        due.is("told(1, 0)", x.told(1, 0), 9);
        SplitProgram y = pair();
        y.go(99);
        due.is("changed", y.scene(1), 1);
        due.is("not over", y.now(0), 0);
        due.is("cuts stay", y.now(6), 3);
        due.is("it needs nothing", y.price(1, 0), 0);
    }

    private static void needs() {
        due.part("11 need");
        SplitProgram x = pair();
        due.is("need(0, 0, 21)", x.need(0, 0, 21), -1);
        due.is("need(0, 0, -1)", x.need(0, 0, -1), -1);
        due.is("-1 ahead of -2", x.need(7, 0, -1), -1);
        due.is("need(1, 0, 1)", x.need(1, 0, 1), -2);
        due.is("need(-1, 0, 1)", x.need(-1, 0, 1), -2);
        due.is("need(0, 2, 1)", x.need(0, 2, 1), -2);
        due.is("need(0, -1, 1)", x.need(0, -1, 1), -2);
        due.is("it is so", x.need(0, 0, 3), -4);
        due.is("need(0, 0, 20)", x.need(0, 0, 20), 3);
        due.is("need(0, 0, 0)", x.need(0, 0, 0), 20);
        due.is("price(0, 9)", x.price(0, 9), 8);
        due.is("need(0, 0, 3)", x.need(0, 0, 3), 0);
        x.go(99);
        due.is("need(0, 1, 6)", x.need(0, 1, 6), 4);
        due.is("cuts stay", x.now(6), 3);
        due.is("told anew by their prices", x.tells(1, 5), 3 + 36 - 12);
        due.is("the ray too", x.tells(0, 5), 2);
        due.is("no rounds", x.now(5), 0);
        due.is("floor(9)", x.floor(9), 7 + 2 * 15);
        due.is("floor(5)", x.floor(5), NO);
    }

    private static void changes() {
        due.part("12 change");
        SplitProgram x = pair();
        due.is("change(0, 3, 1)", x.change(0, 3, 1), -1);
        due.is("change(0, -1, 1)", x.change(0, -1, 1), -1);
        due.is("change(0, 0, 1000)", x.change(0, 0, 1000), -1);
        due.is("change(0, 0, -1)", x.change(0, 0, -1), -1);
        due.is("change(0, 1, 0)", x.change(0, 1, 0), -1);
        due.is("change(0, 1, 21)", x.change(0, 1, 21), -1);
        due.is("change(0, 2, 4)", x.change(0, 2, 4), -1);
        due.is("change(0, 2, -1)", x.change(0, 2, -1), -1);
        due.is("-1 ahead of -2", x.change(5, 2, -1), -1);
        due.is("change(2, 0, 1)", x.change(2, 0, 1), -2);
        due.is("change(-1, 0, 1)", x.change(-1, 0, 1), -2);
        due.is("it is so", x.change(0, 0, 5), -4);
        due.is("it is so", x.change(0, 1, 4), -4);
        due.is("it is so", x.change(0, 2, 3), -4);
        x.go(99);
        due.is("a fee", x.change(0, 0, 999), 5);
        due.is("floor(9)", x.floor(9), 999 + 2 + 22);
        due.is("a size", x.change(1, 1, 20), 3);
        due.is("cuts stay", x.now(6), 3);
        due.is("told anew", x.tells(0, 4), 7 - 20);
        due.is("a most", x.change(0, 2, 0), 3);
        due.is("plans", x.count(4), 3);
        due.is("plan 1 is none", x.tells(0, 1), Integer.MIN_VALUE);
        due.is("not over", x.now(0), 0);
        due.is("price anew", x.lack(0, 4), 3);
    }

    private static void rounds() {
        due.part("13 round");
        SplitProgram x = pair();
        due.is("first", x.round(), 1);
        due.is("master", x.now(4), 0);
        due.is("lower", x.now(1), 0);
        due.is("upper", x.now(2), NO);
        due.is("second", x.round(), 1);
        due.is("master", x.now(4), 5);
        due.is("lower", x.now(1), 6);
        due.is("upper", x.now(2), 36);
        due.is("best", x.now(3), 5);
        due.is("third", x.round(), 1);
        due.is("master", x.now(4), 9);
        due.is("lower", x.now(1), 13);
        due.is("upper", x.now(2), 29);
        due.is("best", x.now(3), 9);
        due.is("the ray is not tight", x.cut(0, 2), 1);
        due.is("the point is", x.cut(1, 2), 0);
        due.is("fourth", x.round(), 0);
        due.is("over", x.now(0), 1);
        due.is("lower", x.now(1), 29);
        due.is("rounds", x.now(5), 4);
        due.is("cuts", x.now(6), 3);
        due.is("ages 2, 1, 0", x.cut(0, 2) * 100 + x.cut(1, 2) * 10 + x.cut(2, 2), 210);
        due.is("over", x.round(), -3);
        SplitProgram y = Due.from("plant 0 5 3;site;case 1 1");
        due.is("a ray", y.round(), 1);
        due.is("no plan is left", y.round(), 0);
        due.is("over", y.now(0), 2);
        due.is("no master", y.now(4), NO);
        due.is("the round counts", y.now(5), 2);
        due.is("lower stays", y.now(1), 0);
        due.is("the ray does not age", y.cut(0, 2), 0);
        SplitProgram z = pair();
        z.terms(2, 551);
        due.is("go(3)", z.go(3), 3);
        due.is("the gap is above", z.now(0), 0);
        z = pair();
        z.terms(2, 552);
        due.is("go(9)", z.go(9), 3);
        due.is("the gap is small", z.now(0), 3);
        due.is("no cut comes", z.now(6), 2);
        due.is("upper", z.now(2), 29);
        z = Due.from("plant 1 5 1;plant 6 10 1;site;road 0 0 2;road 1 0 1;case 1 5");
        due.is("go(2)", z.go(2), 2);
        due.is("best", z.now(3), 1);
        due.is("another plan", z.round() * 100 + z.now(4), 104);
        due.is("of the same total", z.total(4), z.now(2));
        due.is("the first stays the best", z.now(3), 1);
        z = Due.from("plant 0 20 1;site;road 0 0 1;case 1 20");
        z.terms(2, 1000);
        z.round();
        due.is("the upper of a feasible master, lower 0", z.round(), 0);
        due.is("a gap of 1 is not above 1000", z.now(0), 3);
    }

    private static void aging() {
        due.part("13 round: cuts go by age");
        SplitProgram x = pair();
        x.terms(1, 1);
        x.go(3);
        due.is("the ray went", x.now(8), 1);
        due.is("cuts", x.now(6), 2);
        due.is("rays", x.now(7), 0);
        x.round();
        due.is("master", x.now(4), 8);
        due.is("a point went", x.now(8), 2);
        due.is("a point and a ray", x.cut(0, 1) * 10 + x.cut(1, 1), 1);
        x.go(99);
        due.is("rounds", x.now(5), 7);
        due.is("went", x.now(8), 3);
        due.is("best", x.now(3), 9);
        due.is("lower", x.now(1), 29);
        x.need(0, 0, 2);
        due.is("none went since", x.now(8), 0);
        SplitProgram y = pair();
        y.terms(1, 2);
        y.go(99);
        due.is("none was so old when the bound rose", y.now(8), 0);
        SplitProgram z = pair();
        z.go(2);
        z.terms(3, 4);
        due.is("room for 4", z.go(99), 2);
        due.is("over", z.now(0), 1);
        z = Due.from("plant 1 9 3;site;site;site;site;road 0 0 1;road 0 1 2;road 0 2 3;road 0 3 4;"
            + "case 1 9;case 1 0 9;case 1 0 0 9;case 1 0 0 0 9");
        z.terms(3, 7);
        due.is("four rays", z.round(), 4);
        due.is("four points are too many", z.round(), -5);
        due.is("all as it was", z.now(4) * 100 + z.now(5) * 10 + z.now(6), 14);
        due.is("ages too", z.cut(0, 2), 0);
        due.is("lower too", z.now(1), 0);
        due.is("upper too", z.now(2), NO);
        due.is("go(9)", z.go(9), -5);
        due.is("refused twice", z.count(11), 2);
        z.terms(3, 8);
        due.is("now there is room", z.round(), 4);
    }

    private static void ways() {
        due.part("13 round: ways");
        String text = "plant 1 3 3;site;site;road 0 0 1;road 0 1 2;case 3 2;case 1 5;case 2 0 5";
        SplitProgram x = Due.from(text);
        due.is("way 0: three rays", x.round(), 3);
        due.is("by rising cases", x.cut(0, 0) * 100 + x.cut(1, 0) * 10 + x.cut(2, 0), 12);
        x = Due.from(text);
        x.terms(0, 1);
        due.is("way 1: one", x.round(), 1);
        due.is("the greatest lack, the lowest case", x.cut(0, 0), 1);
        due.is("again", x.round(), 1);
        due.is("plan 2: prices 2, 5, 10, times 3, 1, 2", x.now(4), 2);
        due.is("the point of case 2", x.cut(1, 0) * 10 + x.cut(1, 1), 20);
        due.is("again", x.round(), 1);
        due.is("of case 0: 6 above 5", x.cut(2, 0), 0);
        due.is("again", x.round(), 1);
        due.is("of case 1", x.cut(3, 0), 1);
        due.is("over", x.round(), 0);
        due.is("cuts", x.now(6), 4);
        due.is("least", x.now(2), 2 + 6 + 5 + 20);
        x = Due.from("plant 1 9 3;site;road 0 0 2;case 2 3;case 3 2;case 1 6");
        x.terms(0, 1);
        x.go(2);
        due.is("equal points: the lowest case", x.cut(1, 0) * 10 + x.cut(1, 1), 0);
        x.round();
        due.is("then the next", x.cut(2, 0), 1);
    }

    private static void going() {
        due.part("14 go");
        SplitProgram x = pair();
        due.is("go(0)", x.go(0), -1);
        due.is("go(100)", x.go(100), -1);
        due.is("go(-5)", x.go(-5), -1);
        due.is("go(1)", x.go(1), 1);
        due.is("go(2)", x.go(2), 2);
        due.is("rounds", x.now(5), 3);
        due.is("go(99)", x.go(99), 1);
        due.is("over", x.go(1), -3);
        due.is("-1 ahead of -3", x.go(0), -1);
        SplitProgram z = Due.from("plant 1 9 3;site;site;site;site;road 0 0 1;road 0 1 2;road 0 2 3;road 0 3 4;"
            + "case 1 9;case 1 0 9;case 1 0 0 9;case 1 0 0 0 9");
        z.terms(3, 5);
        due.is("one done, one refused", z.go(9), 1);
        due.is("the call was not", z.status(), 0);
        due.is("nor is it counted", z.count(11), 0);
        due.is("cuts", z.now(6), 4);
        due.is("rounds", z.now(5), 1);
        due.is("the first one was", z.go(9), -5);
        due.is("status()", z.status(), -5);
        due.is("undo()", z.undo(), 8);
        due.is("cuts", z.now(6), 0);
    }

    private static void clearing() {
        due.part("15 clear");
        SplitProgram x = pair();
        x.terms(1, 1);
        x.go(99);
        x.go(0);
        due.is("clear()", x.clear(), 3);
        due.is("status is not clear's", x.status(), -1);
        int[] now = {0, NO, NO, NO, NO, 0, 0, 0, 0};
        for (int what = 0; what < now.length; what++) {
            due.is("now(" + what + ")", x.now(what), now[what]);
        }
        due.is("floor(0)", x.floor(0), 0);
        due.is("clear()", x.clear(), 0);
        due.is("undo()", x.undo(), 9);
        due.is("undo()", x.undo(), 9);
        due.is("cuts again", x.now(6), 3);
        due.is("went again", x.now(8), 3);
    }

    private static void undoing() {
        due.part("16 undo");
        SplitProgram x = new SplitProgram();
        due.is("none", x.undo(), -4);
        Due.put(x, "site;case 1 2");
        x.read();
        x.plant(1, 2, 3);
        x.site();
        x.road(0, 1, 5);
        x.scene(4);
        x.need(1, 1, 2);
        x.change(0, 0, 9);
        x.round();
        x.terms(3, 20);
        x.go(1);
        x.clear();
        x.road(0, 1, 5);
        due.is("how many", x.count(5), 10);
        due.is("cuts", x.now(6), 0);
        int[] acts = {9, 8, 7, 6, 5, 4, 3, 2, 1, 0};
        for (int act : acts) {
            due.is("undo()", x.undo(), act);
            due.is("cuts ahead of clear()", act == 9 ? x.now(6) : 2, 2);
            due.is("fee ahead of change()", act == 6 ? x.of(0, 0) : 1, 1);
            due.is("need ahead of need()", act == 5 ? x.told(1, 2) : 0, 0);
            due.is("toll ahead of road()", act == 3 ? x.of(0, 4) : NO, NO);
        }
        due.is("none", x.undo(), -4);
        due.is("all gone", x.count(0) + x.count(1) + x.count(2) + x.count(5), 0);
        due.is("terms stay", x.count(16), 20);
        due.is("refused counts stay", x.count(10), 3);
        for (int n = 0; n < 16; n++) {
            x.clear();
            x.plant(n, 1, 1);
        }
        due.is("twelve are kept", x.count(5), 12);
        for (int n = 0; n < 12; n++) {
            due.is("undo()", x.undo(), 9);
        }
        due.is("no more", x.undo(), -4);
        due.is("plants of the acts that are not kept", x.count(0), 4);
    }

    private static void told() {
        due.part("17 of, 18 told");
        SplitProgram x = pair();
        int[] of = {NO, 5, 4, 3, 1, 6, NO};
        for (int what = -1; what < 6; what++) {
            due.is("of(0, " + what + ")", x.of(0, what), of[what + 1]);
        }
        due.is("no road", x.of(1, 3), NO);
        due.is("of(2, 0)", x.of(2, 0), NO);
        due.is("of(-1, 0)", x.of(-1, 0), NO);
        due.is("of(0, max)", x.of(0, Integer.MAX_VALUE), NO);
        due.is("of(0, min)", x.of(0, Integer.MIN_VALUE), NO);
        int[] told = {NO, 2, 3, 4, NO};
        for (int what = -1; what < 4; what++) {
            due.is("told(0, " + what + ")", x.told(0, what), told[what + 1]);
        }
        due.is("told(1, 0)", x.told(1, 0), NO);
        due.is("told(-1, 0)", x.told(-1, 0), NO);
        due.is("told(0, min)", x.told(0, Integer.MIN_VALUE), NO);
    }

    private static void bounds() {
        due.part("19 now, 20 gap");
        SplitProgram x = pair();
        x.go(2);
        int[] now = {0, 6, 36, 5, 5, 2, 2, 1, 0, NO};
        for (int what = 0; what < now.length; what++) {
            due.is("now(" + what + ")", x.now(what), now[what]);
        }
        due.is("now(-1)", x.now(-1), NO);
        due.is("30 by 36", x.gap(), Float.floatToIntBits(30f / 36f));
        x.round();
        due.is("16 by 29", x.gap(), Float.floatToIntBits(16f / 29f));
        x.round();
        due.is("0", x.gap(), 0);
        x.clear();
        due.is("no upper", x.gap(), NO);
    }

    private static void cuts() {
        due.part("21 cut, 22 tells, 23 exact");
        SplitProgram x = pair();
        x.terms(1, 0);
        x.go(3);
        int[][] want = {
            {0, 1, 1, 1, 1, NO, NO, 1, 1, NO, NO, NO, NO, NO},
            {0, 0, 0, 0, 4, NO, NO, 1, 6, NO, NO, NO, NO, NO},
            {0, 0, 0, 0, 0, NO, NO, 1, 2, NO, NO, NO, NO, NO}};
        for (int i = 0; i < 3; i++) {
            for (int what = 0; what < 14; what++) {
                due.is("cut(" + i + ", " + what + ")", x.cut(i, what), want[i][what]);
            }
        }
        due.is("cut(3, 0)", x.cut(3, 0), NO);
        due.is("cut(-1, 0)", x.cut(-1, 0), NO);
        due.is("cut(0, -1)", x.cut(0, -1), NO);
        due.is("tells(0, 0)", x.tells(0, 0), 7);
        due.is("tells(0, 11)", x.tells(0, 11), 7 - 12 - 6);
        due.is("tells(1, 5)", x.tells(1, 5), 15);
        due.is("tells(1, 0)", x.tells(1, 0), 27);
        due.is("tells(2, 0)", x.tells(2, 0), 11);
        due.is("tells(0, 12)", x.tells(0, 12), Integer.MIN_VALUE);
        due.is("tells(0, 16)", x.tells(0, 16), Integer.MIN_VALUE);
        due.is("tells(0, 256)", x.tells(0, 256), Integer.MIN_VALUE);
        due.is("tells(0, -1)", x.tells(0, -1), Integer.MIN_VALUE);
        due.is("tells(3, 0)", x.tells(3, 0), Integer.MIN_VALUE);
        due.is("the ray: plans 0, 1, 4", x.exact(0), 3);
        due.is("the dear point: plans 2, 3, 5, 6, 7", x.exact(1), 5);
        due.is("the other: plans 9, 10, 11", x.exact(2), 3);
        due.is("exact(3)", x.exact(3), NO);
        due.is("exact(-1)", x.exact(-1), NO);
    }

    private static void alone() {
        due.part("24 price, 25 lack, 26 rate");
        SplitProgram x = pair();
        int[] price = {NO, NO, 27, 27, NO, 15, 15, 15, NO, 11, 11, 11, NO};
        int[] lack = {7, 3, 0, 0, 4, 0, 0, 0, 3, 0, 0, 0, NO};
        for (int plan = 0; plan < price.length; plan++) {
            due.is("price(0, " + plan + ")", x.price(0, plan), price[plan]);
            due.is("lack(0, " + plan + ")", x.lack(0, plan), lack[plan]);
        }
        due.is("price(1, 0)", x.price(1, 0), NO);
        due.is("price(-1, 0)", x.price(-1, 0), NO);
        due.is("price(0, -1)", x.price(0, -1), NO);
        due.is("lack(1, 0)", x.lack(1, 0), NO);
        due.is("lack(0, 256)", x.lack(0, 256), NO);
        int[][] rates = {
            {0, 1, 1, NO, NO, 1, 1, NO}, {8, 1, 0, NO, NO, 1, 0, NO},
            {2, 0, 4, NO, NO, 1, 6, NO}, {5, 0, 4, NO, NO, 1, 6, NO}, {9, 0, 0, NO, NO, 1, 2, NO}};
        for (int[] row : rates) {
            for (int what = 0; what < 7; what++) {
                due.is("rate(0, " + row[0] + ", " + what + ")", x.rate(0, row[0], what), row[1 + what]);
            }
        }
        due.is("rate(0, 0, -1)", x.rate(0, 0, -1), NO);
        due.is("rate(0, 0, 10)", x.rate(0, 0, 10), NO);
        due.is("rate(1, 0, 0)", x.rate(1, 0, 0), NO);
        due.is("rate(0, 12, 0)", x.rate(0, 12, 0), NO);
        x.site();
        due.is("no road to it", x.rate(0, 9, 6), 0);
        x.road(0, 2, 8);
        due.is("it needs nothing, but has a rate", x.rate(0, 9, 6), 8);
        SplitProgram y = Due.from("plant 0 1 1;plant 0 1 1;site;site;road 0 0 5;road 0 1 1;road 1 0 9;case 1 1;case 1 1 1");
        due.is("the nearest", y.price(0, 5), 5);
        due.is("the other gives way", y.price(1, 5), 10);
        due.is("u of plant 0", y.rate(1, 5, 0), 4);
        due.is("u of plant 1", y.rate(1, 5, 1), 0);
        due.is("v of site 0", y.rate(1, 5, 4), 9);
        due.is("v of site 1", y.rate(1, 5, 5), 5);
        due.is("lack of the smallest set", y.lack(1, 4), 1);
        due.is("site 0 is not in it", y.rate(1, 4, 4), 0);
        due.is("site 1 is", y.rate(1, 4, 5), 1);
        due.is("its plant", y.rate(1, 4, 0), 1);
        due.is("not the other", y.rate(1, 4, 1), 0);
    }

    private static void paper() {
        due.part("27 floor, 28 total, 29 least, 30 regret, 31 mean");
        SplitProgram x = pair();
        due.is("no cuts: fees", x.floor(7), 15 + 1);
        x.go(2);
        due.is("barred", x.floor(1), NO);
        due.is("floor(5)", x.floor(5), 36);
        due.is("floor(9)", x.floor(9), 13);
        due.is("reach is 0 at least", x.floor(11), 15 + 2 + 6);
        due.is("floor(12)", x.floor(12), NO);
        due.is("floor(-1)", x.floor(-1), NO);
        due.is("total(0)", x.total(0), NO);
        due.is("total(5)", x.total(5), 36);
        due.is("total(9)", x.total(9), 29);
        due.is("total(12)", x.total(12), NO);
        due.is("total(256)", x.total(256), NO);
        due.is("least(0)", x.least(0), 29);
        due.is("least(1)", x.least(1), 9);
        due.is("least(2)", x.least(2), NO);
        due.is("least(-1)", x.least(-1), NO);
        due.is("regret(5)", x.regret(5), 6 + 15 - 18);
        due.is("regret(9)", x.regret(9), 0);
        due.is("regret(10)", x.regret(10), 5);
        due.is("regret(0)", x.regret(0), NO);
        due.is("regret(16)", x.regret(16), NO);
        due.is("mean(5)", x.mean(5), Double.doubleToLongBits(15.0));
        due.is("mean(0)", x.mean(0), NO);
        due.is("mean(-1)", x.mean(-1), NO);
        x.scene(1);
        due.is("mean of two", x.mean(5), Double.doubleToLongBits(30.0 / 3.0));
        x.need(1, 0, 1);
        due.is("31 by 3", x.mean(5), Double.doubleToLongBits(31.0 / 3.0));
        due.is("22 and 1 by 3", x.mean(9), Double.doubleToLongBits(23.0 / 3.0));
        due.is("regret of two", x.regret(10), 12 + 1 - 6);
        SplitProgram y = Due.from("plant 0 5 3;plant 0 5 3;site;road 0 0 1;road 1 0 1;case 1 5");
        due.is("the lowest plan", y.least(1), 1);
        due.is("regret 0", y.regret(4), 0);
        y = Due.from("plant 0 5 3;site;case 1 5");
        due.is("none", y.least(0), NO);
        due.is("none", y.least(1), NO);
        y = Due.from("plant 3 5 3");
        due.is("regret without cases", y.regret(3), 0);
        due.is("mean without cases", y.mean(3), NO);
        y = Due.from("plant 3 5 3;site;road 0 0 1;case 9;case 1 1");
        due.is("mean below 1", y.mean(3), Double.doubleToLongBits(0.1));
        y = Due.from("plant 3 5 3;case 7");
        due.is("mean 0", y.mean(3), 0);
    }

    private static void woulds() {
        due.part("32 would");
        SplitProgram x = pair();
        due.is("would(0, 0)", x.would(0, 0), 4);
        due.is("would(0, 1)", x.would(0, 1), 7);
        due.is("would(1, 0)", x.would(1, 0), 4);
        due.is("would(2, 0)", x.would(2, 0), NO);
        due.is("would(-1, 0)", x.would(-1, 0), NO);
        due.is("would(0, 10)", x.would(0, 10), NO);
        due.is("would(0, -1)", x.would(0, -1), NO);
        due.is("it is on paper", x.now(5) + x.now(6) + x.count(5) - 1, 0);
        due.is("nor refused", x.status() + x.count(7), 0);
        x.terms(2, 1000);
        x.terms(3, 4);
        x.go(3);
        due.is("tolerance and room are its own", x.would(0, 0), 4);
        due.is("also when it is over", x.now(0), 3);
        x.clear();
        x.terms(2, 0);
        due.is("the rounds are as they would be", x.go(2), 2);
        due.is("floor(9)", x.floor(9), 13);
        due.is("would between rounds", x.would(0, 1), 7);
        due.is("floor(9)", x.floor(9), 13);
        due.is("go on", x.go(99), 2);
        due.is("best", x.now(3), 9);
    }

    private static void images() {
        due.part("33 image, 34 back");
        SplitProgram x = pair();
        due.is("image(2)", x.image(2), -1);
        due.is("image(-1)", x.image(-1), -1);
        due.is("back(2)", x.back(2), -1);
        due.is("back(-1)", x.back(-1), -1);
        due.is("back(0)", x.back(0), -2);
        x.terms(1, 1);
        x.go(4);
        due.is("image(0)", x.image(0), 0);
        x.terms(1, 9);
        x.terms(0, 1);
        x.clear();
        x.plant(1, 1, 1);
        x.scene(1);
        due.is("image(1)", x.image(1), 0);
        Due.put(x, "x");
        x.read();
        x.feed(1, 2, 3, 4, 5);
        due.is("back(0)", x.back(0), 0);
        due.is("keep", x.count(14), 1);
        due.is("way", x.count(13), 0);
        due.is("plants", x.count(0), 2);
        due.is("cuts", x.now(6), 2);
        due.is("went", x.now(8), 2);
        due.is("rounds", x.now(5), 4);
        due.is("nothing can be undone", x.count(5), 0);
        due.is("undo()", x.undo(), -4);
        due.is("the tape stays", x.count(6), 20);
        due.is("fault stays", x.fault(), 0);
        due.is("refused counts stay", x.count(12), 1);
        due.is("goes on alike", x.go(99), 3);
        due.is("images stay", x.back(1), 0);
        due.is("plants", x.count(0), 3);
        due.is("keep", x.count(14), 9);
        due.is("back again", x.back(0), 0);
        due.is("rounds", x.now(5), 4);
    }

    private static void counts() {
        due.part("35 count");
        SplitProgram x = pair();
        x.feed(0, 0, 0, 0, 0);
        int[] want = {2, 2, 1, 3, 12, 1, 20, 0};
        for (int what = 0; what < want.length; what++) {
            due.is("count(" + what + ")", x.count(what), want[what]);
        }
        x.change(0, 2, 0);
        due.is("plans", x.count(4), 3);
        x.terms(9, 9);
        x.road(9, 9, 9);
        x.back(1);
        x.go(99);
        x.round();
        x.go(1);
        x.round();
        x.need(0, 0, 3);
        for (int n = 0; n < 9; n++) {
            x.site();
        }
        x.end(0);
        x.read();
        int[] refused = {1, 2, 3, 1, 5, 1};
        for (int by = 0; by < 6; by++) {
            due.is("refused by -" + (by + 1), x.count(7 + by), refused[by]);
        }
        x.undo();
        due.is("not taken back", x.count(11), 5);
        x.terms(0, 1);
        x.terms(1, 2);
        x.terms(2, 3);
        x.terms(3, 4);
        for (int what = 13; what < 17; what++) {
            due.is("a term", x.count(what), what - 12);
        }
        due.is("count(17)", x.count(17), NO);
        due.is("count(-1)", x.count(-1), NO);
    }

    private static void statuses() {
        due.part("36 status");
        SplitProgram x = pair();
        int[] got = {
            status(x, x.terms(5, 5)), status(x, x.terms(0, 0)), status(x, x.plant(-1, 1, 1)), status(x, x.plant(1, 1, 1)),
            status(x, x.road(9, 0, 0)), status(x, x.road(0, 0, 5)), status(x, x.scene(0)), status(x, x.scene(1)),
            status(x, x.need(0, 0, 3)), status(x, x.need(0, 0, 5)), status(x, x.change(0, 0, 5)), status(x, x.change(0, 0, 6)),
            status(x, x.go(0)), status(x, x.go(99)), status(x, x.round()), status(x, x.image(2)), status(x, x.image(0)),
            status(x, x.back(1)), status(x, x.back(0)), status(x, x.undo()), status(x, x.read()), status(x, x.site())};
        int[] want = {-1, 0, -1, 0, -2, 0, -1, 0, -4, 0, -4, 0, -1, 0, -3, -1, 0, -2, 0, -4, -6, 0};
        for (int i = 0; i < want.length; i++) {
            due.is("call " + i, got[i], want[i]);
        }
        x.undo();
        due.is("undo()", x.status(), 0);
        x.go(0);
        x.feed(0, 0, 0, 0, 0);
        x.end(500);
        x.clear();
        x.would(5, 5);
        x.price(9, 9);
        due.is("others leave it", x.status(), -1);
    }

    private static int status(SplitProgram x, int answer) {
        return x.status();
    }
}
