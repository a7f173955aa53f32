/** Each boundary that promises 18 to 25 name: led, least, back, row, parts, told, off, fitting. */
public final class BoundsOfThoughtTest {
    private static final String FOUR = "BOYS 01 02 13 14";
    private static final Bounds b = new Bounds();

    public static void main(String[] args) {
        led();
        ledFar();
        nothingStays();
        least();
        back();
        row();
        parts();
        orders();
        told();
        off();
        fitting();
        b.end("BoundsOfThoughtTest", 18, 19, 20, 21, 22, 23, 24, 25);
    }

    private static void led() {
        b.promise(18);
        b.bound("NONE - 99 if one can't be: no such PLAN", "led(-1, 0, true, 0) = -100", "led(4, 0, true, 0) = -100",
                "led(MIN, 0, false, 6) = -100", "led(MAX, 0, false, 6) = -100");
        b.bound("NONE - 99 if one can't be: no such LAW", "led(0, -1, true, 0) = -100", "led(0, 4, true, 0) = -100",
                "led(0, MIN, false, 6) = -100", "led(0, MAX, false, 6) = -100");
        b.bound("another what: too small, too large", "led(0, 0, true, -1) = -100", "led(0, 0, true, 7) = -100",
                "led(0, 0, true, MIN) = -100", "led(0, 0, true, MAX) = -100", "led(3, 3, false, 6) = 0");
        b.bound("an empty PLAN", FOUR, "like(0, 2, 8)", "LAW 0: fight 5;home 1;name 1;add 3;", "led(1, 0, true, 0) = 0",
                "led(1, 0, true, 1) = 0", "led(1, 0, true, 2) = 1", "led(1, 0, true, 3) = 0",
                "led(1, 0, true, 4) = NONE", "led(1, 0, true, 5) = 0", "led(1, 0, true, 6) = 0");
        b.bound("a PLAN of stir alone", FOUR, "PLAN 1: stir 0;", "LAW 0: fight wronged;", "led(1, 0, true, 0) = 0",
                "led(1, 0, true, 6) = 0");
        b.bound("by an empty LAW", FOUR, "like(0, 2, -8)", "PLAN 0: against 9;apart;", "led(0, 3, true, 0) = 0",
                "led(0, 3, true, 1) = 0", "led(0, 3, true, 2) = -1", "led(0, 3, true, 3) = 0",
                "led(0, 3, true, 4) = NONE", "led(0, 3, true, 5) = 0", "led(0, 3, true, 6) = 2");
        b.bound("with nobody in the wood", "PLAN 0: against 9;", "LAW 0: fight 1;name 1;home 1;",
                "led(0, 0, true, 0) = 2", "led(0, 0, true, 2) = 0", "led(0, 0, true, 3) = 0", "led(0, 0, true, 5) = 2",
                "led(0, 0, true, 6) = 1");
        b.bound("the first DAY of it (1, 2, ..) with a FIGHT (NONE)", FOUR, "PLAN 0: apart;stir 0;beside;apart;",
                "LAW 0: fight 1;", "led(0, 0, true, 4) = 1", "LAW 0: fight 1 when kind=2;", "led(0, 0, true, 4) = 2",
                "LAW 0: fight 1 when day=2;", "led(0, 0, true, 4) = 3", "LAW 0: fight 1 when day=3;",
                "led(0, 0, true, 4) = NONE", "day(0, 0, NONE)", "led(0, 0, true, 4) = 3");
        b.bound("with a FIGHT: of one LOT", FOUR, "PLAN 0: apart;stir 1;apart;", "LAW 0: fight wronged;",
                "led(0, 0, true, 4) = 2", "led(0, 0, true, 0) = 1", "led(0, 0, false, 4) = NONE");
        b.bound("with what men did, or without (stir left out)", FOUR,
                "PLAN 0: stir 1;apart;stir 1;stir 0;apart;stir 1;", "LAW 0: fight wronged*5;", "led(0, 0, true, 0) = 2",
                "led(0, 0, true, 1) = 10", "led(0, 0, false, 0) = 0", "led(0, 0, false, 6) = 2");
        b.bound("FIGHTS in all (LOTS counted each DAY)", FOUR, "PLAN 0: apart;beside;", "LAW 0: fight 1;",
                "day(0, 0, NONE) = 2", "led(0, 0, true, 0) = 4", "look(5) = 2");
        b.bound("HEAT that it adds: 999 at most each time", FOUR, "PLAN 0: " + "apart;".repeat(24),
                "LAW 0: fight " + Checks.MOST + ";", "day(0, 0, NONE)", "led(0, 0, true, 1) = 47952",
                "lot(0, 5) = 999");
        b.bound("BOYS GONE in it", FOUR, "PLAN 0: apart;apart;", "LAW 0: home 1 when strong=1;home 1 when day=2;",
                "led(0, 0, true, 3) = 1", "day(0, 0, NONE)", "led(0, 0, true, 3) = 3", "led(0, 0, true, 2) = 0");
        b.bound("NAMES that come: none, one, both", FOUR, "PLAN 0: stir 0;apart;", "led(0, 0, true, 5) = 0",
                "LAW 0: name wronged;", "led(0, 0, true, 5) = 1", "LAW 0: name 1;", "led(0, 0, true, 5) = 2",
                "LAW 1: name wronged;", "force(1)", "day(0, 0, 0)", "led(0, 0, true, 5) = 1", "day(0, 0, 1)",
                "led(0, 0, true, 5) = 0");
        b.bound("CROSS, of both LOTS together: one mean, downwards", "BOYS 00 00 10", "like(0, 2, -1)",
                "like(2, 1, -2)", "led(0, 0, true, 2) = -1", "look(3) = -1", "lot(0, 2) = -1", "like(2, 0, -2)",
                "led(0, 0, true, 2) = -2");
        b.bound("CROSS when nobody is across: a mean of nothing is 0", FOUR, "like(0, 2, -50)", "PLAN 0: apart;",
                "LAW 0: home 1 when strong>2;", "led(0, 0, true, 2) = 0", "led(1, 0, true, 2) = -7");
    }

    private static void ledFar() {
        b.bound("a PLAN of 24 DAYS", "PLAN 0: " + "apart;".repeat(24), "led(0, 0, true, 6) = 24");
        b.bound("If DAYS would be more than 60, it ends", FOUR, "PLAN 0: apart;apart;apart;", "LAW 0: fight 1;add 1;",
                "57 x day(0, 0, NONE)", "led(0, 1, true, 6) = 3", "day(0, 0, NONE)", "led(0, 0, true, 6) = 2",
                "led(0, 0, true, 0) = 4", "day(0, 0, NONE)", "led(0, 0, true, 6) = 1", "day(0, 0, NONE)",
                "led(0, 0, true, 6) = 0", "led(0, 0, true, 4) = NONE", "led(0, 0, true, 2) = 50");
        b.bound("by a told LAW (in force for it)", FOUR, "PLAN 0: apart;", "LAW 0: fight 1;", "LAW 3: fight 7;",
                "led(0, 3, true, 1) = 14", "force(3)", "led(0, 0, true, 1) = 2", "look(4) = 3");
    }

    private static void nothingStays() {
        String[] thoughts = {"led(0, 0, true, 0)", "least(0, 9)", "back(0)", "parts(0, 1, 0)", "off(0, 0)", "fitting(0)"};
        for (String thought : thoughts) {
            b.bound("STATE as it is, nothing of it stays: " + thought, FOUR, "PLAN 0: stir 0;against 5;beside;",
                    "LAW 0: add 5 when day>0;fight 5;home 1 when day=1;name 1;slip same;", "like(0, 2, -20)",
                    "state(77)", "row(1)", "row(3)", "told(1, 5)", thought, "look(0) = 4", "look(1) = 4", "look(2) = 0",
                    "look(3) = -3", "look(4) = 0", "look(5) = 0", "look(6) = 4", "look(7) = 2", "of(0, 101) = 0",
                    "of(0, 102) = -20", "lot(0, 3) = 0", "lot(0, 5) = 0", "lot(0, 6) = 0", "lot(1, 6) = 0",
                    "lot(0, 8) = 0", "kept(1, 0) = -100", "boy(0, 0) = 4", "state(0) = 77");
        }
        b.bound("the same again", FOUR, "PLAN 0: against 0;against 0;", "LAW 0: fight won*3+lost;add won-lost;",
                "2 x led(0, 0, true, 1) = 8", "2 x led(0, 0, true, 2) = 0", "2 x least(0, 0) = 1",
                "led(0, 0, true, 1) = 8");
    }

    private static void least() {
        b.promise(19);
        b.bound("no such LAW", "LAW 0: fight 1;", "least(-1, 0) = NONE", "least(4, 0) = NONE", "least(MIN, 0) = NONE",
                "least(MAX, 0) = NONE");
        b.bound("so many DAYS apart (0 .. 9): too small, too large", "LAW 0: fight 1;", "least(0, -1) = NONE",
                "least(0, 10) = NONE", "least(0, MIN) = NONE", "least(0, MAX) = NONE");
        b.bound("so many DAYS apart (0 .. 9): the least and the most", "LAW 0: fight 1 when day=9;", "least(0, 0) = 10",
                "least(0, 9) = 1", "least(0, 8) = 2");
        b.bound("(1 .. 20): the first one", FOUR, "LAW 0: fight 1;", "least(0, 0) = 1", "least(0, 9) = 1");
        b.bound("(1 .. 20): the last one", "LAW 0: fight 1 when day=19;", "least(0, 0) = 20", "least(0, 1) = 19");
        b.bound("NONE if there is none within 20: on the 21st", "LAW 0: fight 1 when day=20;", "least(0, 0) = NONE",
                "least(0, 1) = 20");
        b.bound("NONE if there is none", "least(0, 0) = NONE", "least(3, 9) = NONE");
        b.bound("in one of these: not on the DAYS apart", "LAW 0: fight 1 when kind=0;", "least(0, 9) = NONE",
                "LAW 0: fight 1 when day<9;", "least(0, 9) = NONE", "least(0, 8) = 1");
        b.bound("with PRIZE 5, apart 0", FOUR, "LAW 0: fight 1 when prize=5 and kind=1;", "least(0, 2) = 1",
                "LAW 0: fight 1 when not prize=5;", "least(0, 2) = NONE",
                "LAW 0: add 1 when kind=0 and prize=0;fight own-8;", "least(0, 8) = NONE", "least(0, 9) = 1");
        b.bound("a LOT: one is enough", FOUR, "LAW 0: fight won;", "least(0, 0) = 1", "LAW 0: fight wronged;",
                "least(0, 0) = NONE");
        b.bound("(DAYS may be more than 60 in these)", "LAW 0: fight 1 when day=88;", "59 x day(0, 0, NONE)",
                "least(0, 9) = NONE", "day(0, 0, NONE)", "least(0, 9) = 20", "LAW 0: fight 1 when day=60;",
                "least(0, 0) = 1", "least(0, 1) = NONE", "look(2) = 60");
        b.bound("with nobody in the wood", "LAW 0: fight 1-size;", "least(0, 0) = 1");
    }

    private static void back() {
        b.promise(20);
        b.bound("no such LAW", "back(-1) = NONE", "back(4) = NONE", "back(MIN) = NONE", "back(MAX) = NONE",
                "back(3) = 0");
        b.bound("(0 .. 30): 0 when CROSS is 0", FOUR, "LAW 0: add 0-9;", "back(0) = 0", "like(0, 2, 7)", "back(0) = 0");
        b.bound("CROSS is 0 at least: above 0", "BOYS 00 10", "LAW 0: add 7;", "like(0, 1, 9)", "look(3) = 4",
                "back(0) = 0", "like(0, 1, -6)", "like(1, 0, -6)", "back(0) = 1", "like(0, 1, -8)", "like(1, 0, -8)",
                "back(0) = 2");
        b.bound("CROSS is 0 at least: -1 is not", FOUR, "LAW 0: add 1 when same=0;", "like(0, 2, -1)", "look(3) = -1",
                "back(0) = 1");
        b.bound("CROSS is 0 at least: with nobody across", "BOYS 00", "back(0) = 0");
        b.bound("(0 .. 30): 30", "BOYS 00 10", "LAW 0: add 1 when kind=3;", "like(0, 1, -30)", "like(1, 0, -30)",
                "back(0) = 30");
        b.bound("NONE if it is not within 30", "BOYS 00 10", "LAW 0: add 1 when kind=3;", "like(0, 1, -31)",
                "like(1, 0, -30)", "back(0) = NONE", "like(1, 0, -29)", "back(0) = 30");
        b.bound("29, 31", "BOYS 00 10", "LAW 0: add 1 when kind=3;", "like(0, 1, -29)", "like(1, 0, -29)",
                "back(0) = 29", "like(0, 1, -31)", "like(1, 0, -31)", "back(0) = NONE");
        b.bound("NONE by an empty LAW", "BOYS 00 10", "like(0, 1, -1)", "back(0) = NONE");
        b.bound("(DAYS may be more than 60 in these)", "BOYS 00 10", "like(0, 1, -1)", "60 x day(0, 0, NONE)",
                "LAW 0: add 1 when day=89;", "back(0) = 30", "LAW 0: add 1 when day=60;", "back(0) = 1",
                "LAW 0: add 1 when day=90;", "back(0) = NONE", "look(2) = 60");
        b.bound("DAYS together, no PRIZE, nobody WRONGED", "BOYS 00 10", "like(0, 1, -1)",
                "LAW 0: add 1 when kind=3 and prize=0 and wronged=0;", "back(0) = 1",
                "LAW 0: add 1 when not kind=3 or prize>0 or wronged=1;", "back(0) = NONE");
    }

    private static void row() {
        b.promise(21);
        b.bound("NONE - 1 if one can't be: too small", "row(-2) = -2", "row(MIN) = -2", "look(7) = 0");
        b.bound("NONE - 1 if one can't be: too large", "row(4) = -2", "row(MAX) = -2", "look(7) = 0");
        b.bound("a KIND: the least and the most", "row(0) = 1", "row(3) = 2", "look(7) = 2");
        b.bound("up to five", "row(0) = 1", "row(1) = 2", "row(2) = 3", "row(3) = 4", "row(3) = 5", "look(7) = 5");
        b.bound("NONE - 1 if there are five", "5 x row(2)", "row(0) = -2", "row(2) = -2", "look(7) = 5",
                "parts(0, 0, 5) = 4", "parts(0, 0, 6) = NONE");
        b.bound("NONE: it is empty then", "5 x row(2)", "row(NONE) = 0", "look(7) = 0", "row(1) = 1");
        b.bound("NONE of an empty one", "2 x row(NONE) = 0", "look(7) = 0");
        b.bound("what was in ROW ahead of that is gone", "BOYS 00 10", "LAW 1: add kind*10;", "row(3)", "row(NONE)",
                "parts(0, 1, 0) = 0", "row(2)", "parts(0, 1, 0) = 20");
    }

    private static void parts() {
        b.promise(22);
        b.bound("NONE if there is none such", "row(0)", "parts(-1, 0, 0) = NONE", "parts(4, 0, 0) = NONE",
                "parts(0, -1, 0) = NONE", "parts(0, 4, 0) = NONE", "parts(MIN, 0, 0) = NONE", "parts(0, MAX, 0) = NONE",
                "parts(3, 3, 0) = 0");
        b.bound("NONE for another what: too small", "row(0)", "parts(0, 0, -1) = NONE", "parts(0, 0, MIN) = NONE");
        b.bound("NONE for another what: too large", "row(0)", "row(0)", "parts(0, 0, 2) = 1", "parts(0, 0, 3) = NONE",
                "parts(0, 0, 6) = NONE", "parts(0, 0, MAX) = NONE");
        b.bound("an empty ROW", "BOYS 00 10", "like(0, 1, 9)", "LAW 1: add 5;", "parts(0, 1, 0) = 0",
                "parts(0, 1, 1) = NONE");
        b.bound("a ROW of one", "BOYS 00 10", "LAW 1: add 5;", "row(3)", "parts(0, 1, 0) = 5", "parts(0, 1, 1) = 0",
                "parts(0, 1, 2) = NONE");
        b.bound("how far apart: neither ahead of the other", "BOYS 00 10", "LAW 1: add 5;", "LAW 2: add 0-5;", "row(3)",
                "parts(1, 2, 0) = 10", "parts(2, 1, 0) = 10", "parts(2, 0, 0) = 5");
        b.bound("the farthest there is", "BOYS 00 10", "LAW 1: add 99;", "LAW 2: add 0-99;", "row(0)",
                "parts(1, 2, 0) = 100");
        b.bound("by one LAW alone", "BOYS 00 10", "LAW 1: add day;", "row(0)", "row(1)", "parts(1, 1, 0) = 0",
                "parts(1, 1, 1) = 0", "parts(1, 1, 2) = 1");
        b.bound("(PRIZE 5), against alone", "BOYS 00 10", "LAW 1: add prize;", "row(0)", "row(2)", "row(3)",
                "parts(0, 1, 0) = 0", "row(1)", "parts(0, 1, 0) = 5");
        b.bound("with nobody in the wood", "LAW 1: add 5;fight 1;", "5 x row(1)", "parts(0, 1, 0) = 0",
                "parts(0, 1, 1) = 0", "parts(0, 1, 5) = 4");
        // CROSS at the end is that of one DAY: none is gone by when 60 have.
        b.bound("DAYS gone by are at most 60", "BOYS 00 10", "59 x day(0, 0, NONE)", "LAW 1: add kind;", "row(1)",
                "row(3)", "parts(0, 1, 0) = 3", "parts(0, 1, 1) = 1", "parts(0, 1, 2) = 0", "day(0, 0, NONE)",
                "parts(0, 1, 0) = 0", "parts(0, 1, 1) = 0", "parts(0, 1, 2) = 1");
    }

    private static void orders() {
        b.bound("of several the first: all alike", "5 x row(1)", "parts(0, 1, 1) = 0", "parts(0, 1, 2) = 1",
                "parts(0, 1, 3) = 2", "parts(0, 1, 4) = 3", "parts(0, 1, 5) = 4");
        b.bound("of several the first: the same KIND at two places", "BOYS 00 10",
                "LAW 1: add 4 when day=2 and kind=3;", "row(3)", "row(3)", "row(0)", "parts(0, 1, 0) = 4",
                "parts(0, 1, 1) = 0", "parts(0, 1, 2) = 2", "parts(0, 1, 3) = 1");
        b.bound("all orders of ROW: the last of them", "BOYS 00 10",
                "LAW 1: add 1 when day=0 and kind=3 or day=1 and kind=2 or day=2 and kind=1 or day=3 and kind=0;",
                "row(0)", "row(1)", "row(2)", "row(3)", "parts(0, 1, 0) = 4", "parts(0, 1, 1) = 3",
                "parts(0, 1, 2) = 2", "parts(0, 1, 3) = 1", "parts(0, 1, 4) = 0");
        b.bound("all orders of five", "BOYS 00 10",
                "LAW 1: add 1 when day=0 and kind=3 or day=1 and kind=2 or day=2 and kind=1 or day>2 and kind=0;",
                "row(0)", "row(0)", "row(1)", "row(2)", "row(3)", "parts(0, 1, 0) = 5", "parts(0, 1, 1) = 4",
                "parts(0, 1, 2) = 3", "parts(0, 1, 3) = 2", "parts(0, 1, 4) = 0", "parts(0, 1, 5) = 1");
        b.bound("an order by which each LAW goes its way", "BOYS 00 10",
                "LAW 1: add 9 when day=0 and kind=1;add 4 when day=1;",
                "LAW 2: add 0-5 when day=1 and kind=2;add 0-7 when day=0 and kind=2;add 3 when day=0;", "row(2)",
                "row(1)", "parts(1, 2, 0) = 15", "parts(1, 2, 1) = 1", "parts(1, 2, 2) = 0", "parts(2, 1, 0) = 15",
                "parts(2, 1, 1) = 1");
        b.bound("each order from things as they are", "BOYS 00 10", "LAW 1: add 1;home 1 when day=1 and kind=3;name 1;",
                "LAW 2: add 0-1;", "row(3)", "row(0)", "row(0)", "parts(1, 2, 0) = 6", "parts(1, 2, 1) = 0",
                "parts(2, 1, 0) = 6");
    }

    private static void told() {
        b.promise(23);
        b.bound("the n-th DAY (1 .. 24): too small", "told(0, 5) = false", "told(-1, 5) = false",
                "told(MIN, 5) = false", "told(0, -100) = false");
        b.bound("the n-th DAY (1 .. 24): too large", "told(25, 5) = false", "told(MAX, 5) = false",
                "told(25, -100) = false");
        b.bound("the n-th DAY (1 .. 24): the least and the most", "PLAN 0: " + "apart;".repeat(24), "told(1, 5) = true",
                "off(0, 0) = 5", "told(24, 7) = true", "off(0, 0) = 12");
        b.bound("(-50 .. 50): too small, too large", "PLAN 0: apart;", "told(1, 3)", "told(1, -51) = false",
                "told(1, 51) = false", "told(1, MIN) = false", "told(1, MAX) = false", "off(0, 0) = 3");
        b.bound("(-50 .. 50): the least and the most", "PLAN 0: apart;", "told(1, -50) = true", "off(0, 0) = 50",
                "told(1, 50) = true", "off(0, 0) = 50", "told(1, 0) = true", "off(0, 0) = 0");
        b.bound("v NONE - 99: not any more", "PLAN 0: apart;beside;", "told(1, 3)", "told(2, 4)",
                "told(1, -100) = true", "off(0, 0) = 4", "told(2, -100) = true", "off(0, 0) = 0");
        b.bound("v NONE - 99 of one that was not told", "told(24, -100) = true", "told(24, -100) = true");
        b.bound("v beside NONE - 99", "PLAN 0: apart;", "told(1, 3)", "told(1, -99) = false", "told(1, -101) = false",
                "told(1, NONE) = true", "off(0, 0) = 1");
    }

    private static void off() {
        b.promise(24);
        b.bound("NONE if one can't be: no such PLAN", "off(-1, 0) = NONE", "off(4, 0) = NONE", "off(MIN, 0) = NONE",
                "off(MAX, 0) = NONE");
        b.bound("NONE if one can't be: no such LAW", "off(0, -1) = NONE", "off(0, 4) = NONE", "off(0, MIN) = NONE",
                "off(0, MAX) = NONE", "off(3, 3) = 0");
        b.bound("of no DAY CROSS was told", "BOYS 00 10", "PLAN 0: apart;apart;", "LAW 0: add 5;", "off(0, 0) = 0");
        b.bound("an empty PLAN", "told(1, 50)", "off(0, 0) = 0");
        b.bound("told of a DAY behind the PLAN's last", "PLAN 0: apart;stir 0;", "told(2, 50)", "off(0, 0) = 0",
                "told(1, 1)", "off(0, 0) = 1");
        b.bound("how far: above and below", "BOYS 00 10", "PLAN 0: apart;apart;", "LAW 0: add 5;", "told(1, 8)",
                "told(2, 8)", "off(0, 0) = 5");
        b.bound("the most there is", "BOYS 00 10", "PLAN 0: " + "apart;".repeat(24), "LAW 0: add 99;", "told(1, -50)",
                "off(0, 0) = 100", "told(24, -50)", "off(0, 0) = 200");
        b.bound("stir is no DAY of it", "BOYS 00 10", "PLAN 0: stir 0;apart;stir 1;apart;", "LAW 0: add 5;",
                "told(1, 0)", "off(0, 0) = 5", "told(2, 0)", "off(0, 0) = 15", "told(3, 50)", "off(0, 0) = 15");
        b.bound("all DAYS of the PLAN, with what men did", "BOYS 00 10", "PLAN 0: stir 0;apart;",
                "LAW 1: add wronged*8;", "LAW 2: add 3;", "told(1, 4)", "off(0, 1) = 0", "off(0, 2) = 1",
                "fitting(0) = 1");
        b.bound("If DAYS would be more than 60, it ends", "BOYS 00 10", "PLAN 0: apart;apart;", "59 x day(0, 0, NONE)",
                "told(1, 1)", "told(2, 1)", "off(0, 0) = 1", "day(0, 0, NONE)", "off(0, 0) = 0");
    }

    private static void fitting() {
        b.promise(25);
        b.bound("NONE if there is none such", "fitting(-1) = NONE", "fitting(4) = NONE", "fitting(MIN) = NONE",
                "fitting(MAX) = NONE", "fitting(3) = 0");
        b.bound("of several the first: all", "BOYS 00 10", "PLAN 0: apart;", "fitting(0) = 0", "told(1, 5)",
                "fitting(0) = 0");
        b.bound("of several the first: two of them", "BOYS 00 10", "PLAN 0: apart;", "told(1, 5)", "LAW 1: add 2;",
                "LAW 2: add 4;", "LAW 3: add 6;", "fitting(0) = 2", "LAW 0: add 4;", "fitting(0) = 0");
        b.bound("the least OFF: the last LAW", "BOYS 00 10", "PLAN 0: apart;", "told(1, 5)", "LAW 1: add 3;",
                "LAW 2: add 4;", "LAW 3: add 5;", "fitting(0) = 3", "force(3)", "fitting(0) = 3");
        b.bound("an empty PLAN", "told(1, 5)", "LAW 2: add 5;", "fitting(1) = 0");
        b.bound("when 60 DAYS have gone by", "BOYS 00 10", "60 x day(0, 0, NONE)", "PLAN 0: apart;", "told(1, 5)",
                "LAW 3: add 5;", "fitting(0) = 0");
    }
}
