/** Each boundary that promises 10 to 12, 14, 15 name, and how a DAY goes by: force, day, plan, lot, kept. */
public final class BoundsOfDaysTest {
    private static final String FOUR = "BOYS 01 02 13 14";
    private static final Bounds b = new Bounds();

    public static void main(String[] args) {
        force();
        day();
        sixtyDays();
        nothingIsDone();
        scores();
        likes();
        fights();
        homes();
        names();
        facts();
        plan();
        lot();
        kept();
        b.end("BoundsOfDaysTest", 10, 11, 12, 14, 15);
    }

    private static void force() {
        b.promise(10);
        b.bound("what it was", "force(3) = 0", "force(3) = 3", "force(0) = 3", "look(4) = 0");
        b.bound("NONE if one can't be: too small", "force(2)", "force(-1) = NONE", "force(MIN) = NONE", "look(4) = 2");
        b.bound("NONE if one can't be: too large", "force(2)", "force(4) = NONE", "force(MAX) = NONE", "look(4) = 2");
        b.bound("an empty LAW may be in force", FOUR, "LAW 0: add 1;", "force(1) = 0", "day(0, 0, NONE) = 0",
                "of(0, 101) = 0");
    }

    private static void day() {
        b.promise(11);
        b.bound("a KIND 0 .. 3: too small", "day(-1, 0, NONE) = NONE", "day(MIN, 0, NONE) = NONE", "look(2) = 0");
        b.bound("a KIND 0 .. 3: too large", "day(4, 0, NONE) = NONE", "day(MAX, 0, NONE) = NONE", "look(2) = 0");
        b.bound("a KIND 0 .. 3: the least and the most", "day(0, 0, NONE) = 0", "day(3, 0, NONE) = 0", "kept(1, 7) = 0",
                "kept(2, 7) = 3");
        b.bound("a PRIZE 0 .. 9: too small, too large", "day(1, -1, NONE) = NONE", "day(1, MIN, NONE) = NONE",
                "day(1, 10, NONE) = NONE", "day(1, MAX, NONE) = NONE", "look(2) = 0");
        b.bound("a PRIZE 0 .. 9: the least and the most", FOUR, "LAW 0: add prize-4;", "day(1, 0, NONE) = 0",
                "of(0, 101) = -4", "day(1, 9, NONE) = 0", "of(0, 101) = 1");
        b.bound("a PRIZE for another KIND than 1", "day(0, 1, NONE) = NONE", "day(2, 1, NONE) = NONE",
                "day(3, 9, NONE) = NONE", "day(0, -1, NONE) = NONE", "day(2, MIN, NONE) = NONE",
                "day(3, MAX, NONE) = NONE", "look(2) = 0");
        b.bound("a WRONGED LOT: too small, too large", "day(0, 0, -2) = NONE", "day(0, 0, 2) = NONE",
                "day(1, 5, MIN) = NONE", "day(1, 5, MAX) = NONE", "look(2) = 0", "lot(0, 8) = 0", "lot(1, 8) = 0");
        b.bound("wronged NONE: no LOT", FOUR, "LAW 0: add wronged;", "day(0, 0, NONE) = 0", "of(0, 101) = 0",
                "of(2, 103) = 0", "lot(0, 8) = 0", "lot(1, 8) = 0");
        b.bound("perhaps a WRONGED LOT: 0, 1", FOUR, "LAW 0: add wronged;", "day(0, 0, 0) = 0", "of(0, 101) = 1",
                "of(2, 103) = 0", "day(3, 0, 1) = 0", "of(0, 101) = 1", "of(2, 103) = 1", "lot(0, 8) = 1",
                "lot(1, 8) = 1");
        b.bound("how many LOTS FIGHT: none, one, both", FOUR, "day(0, 0, NONE) = 0", "LAW 0: fight wronged;",
                "day(0, 0, 0) = 1", "day(0, 0, 1) = 1", "LAW 0: fight 1;", "day(0, 0, 1) = 2", "look(5) = 4");
        b.bound("with nobody in the wood", "LAW 0: fight 1+own+across+size;home 1;name 1;add 5;slip 1;",
                "day(1, 9, 1) = 2", "kept(1, 6) = 0", "kept(1, 5) = 3", "lot(0, 3) = 1", "lot(1, 5) = 1");
    }

    private static void sixtyDays() {
        b.bound("60 have gone by", "59 x day(0, 0, NONE)", "day(2, 0, NONE) = 0", "look(2) = 60",
                "day(2, 0, NONE) = NONE", "day(1, 5, 0) = NONE", "look(2) = 60");
        b.bound("60 have gone by: nothing is done", FOUR, "60 x day(0, 0, NONE)", "LAW 0: add 1;fight 1;home 1;name 1;",
                "state(9)", "day(1, 5, 0) = NONE", "of(0, 101) = 0", "look(1) = 4", "look(5) = 0", "lot(0, 3) = 0",
                "lot(0, 8) = 0", "kept(61, 0) = -100", "state(0) = 9");
        b.bound("day (DAYS gone by ahead of this one): 0 .. 59", FOUR, "LAW 0: fight 1 when day=0;fight 1 when day=59;",
                "day(0, 0, NONE) = 2", "58 x day(0, 0, NONE) = 0", "day(0, 0, NONE) = 2", "look(5) = 4");
        b.bound("all 60 DAYS are kept", "LAW 0: fight 1 when day=59;", "60 x day(2, 0, NONE)", "kept(1, 7) = 2",
                "kept(1, 5) = 0", "kept(60, 7) = 2", "kept(60, 5) = 3");
        b.bound("60 DAYS of HEAT, 999 each", "LAW 0: fight " + Checks.MOST + ";", "60 x day(1, 0, 0)",
                "lot(0, 5) = 59940", "lot(1, 4) = 60", "look(5) = 120", "lot(0, 8) = 60");
    }

    private static void nothingIsDone() {
        String[] wrong = {"day(4, 0, NONE)", "day(0, 1, NONE)", "day(1, 10, NONE)", "day(1, 0, 2)"};
        for (String day : wrong) {
            b.bound("NONE, and nothing is done: " + day, FOUR, "LAW 0: add 1;fight 1;home 1;name 1;slip same;",
                    "state(7)", day + " = NONE", "of(0, 101) = 0", "look(1) = 4", "look(2) = 0", "look(5) = 0",
                    "look(6) = 4", "lot(0, 3) = 0", "lot(1, 6) = 0", "lot(0, 8) = 0", "kept(1, 0) = -100",
                    "state(0) = 7", "boy(0, 0) = 4");
        }
    }

    /** From STATE 0 the DRAWS are 3 for LOT 0 and 7 for LOT 1. */
    private static void scores() {
        b.bound("the greater SCORE wins, the other LOT loses: by one", "BOYS 05 10", "day(1, 5, NONE)",
                "kept(1, 4) = 0", "lot(0, 6) = 1", "lot(1, 6) = 0");
        b.bound("the greater SCORE wins: the other by one", "BOYS 03 10", "day(1, 5, NONE)", "kept(1, 4) = 1",
                "lot(0, 6) = 0", "lot(1, 6) = 1");
        b.bound("alike: neither", "BOYS 04 10", "LAW 0: fight won+lost;", "day(1, 5, NONE) = 0", "kept(1, 4) = NONE",
                "lot(0, 6) = 0", "lot(1, 6) = 0");
        b.bound("nobody wins on another DAY", "BOYS 09 10", "LAW 0: fight won+lost;", "day(0, 0, NONE) = 0",
                "day(2, 0, NONE) = 0", "day(3, 0, NONE) = 0", "kept(3, 4) = NONE", "lot(0, 6) = 0");
        b.bound("STRENGTH of all its BOYS: the most", "12 x boy(0, 9)", "11 x boy(1, 9)", "boy(1, 5)",
                "day(1, 0, NONE)", "kept(1, 4) = NONE");
        b.bound("STRENGTH of all its BOYS THERE", "BOYS 09 02 10", "LAW 0: home 1 when strong=9;", "day(0, 0, NONE)",
                "day(1, 0, NONE)", "kept(2, 4) = 1");
        b.bound("with nobody: the DRAWS", "day(1, 5, NONE)", "kept(1, 4) = 1");
        own("its own by 5: 4 is 0", 4, 4, 4, "NONE");
        own("its own by 5: 5 is 1", 4, 5, 5, "0");
        own("its own by 5: 9 is 1", 3, 9, 9, "NONE");
        own("its own by 5: 50 is 10", 0, 50, 50, "0");
        own("Quotients go downwards: -1 by 5 is -1", 5, -1, -1, "NONE");
        own("Quotients go downwards: -5 by 5 is -1", 5, -5, -5, "NONE");
        own("Quotients go downwards: -6 by 5 is -2", 6, -6, -6, "NONE");
        own("Quotients go downwards: a mean of -1 and 0, by 5", 5, -1, 0, "NONE");
        own("Quotients go downwards: a mean of 5 and 4, by 5", 4, 5, 4, "NONE");
        b.bound("its own by 5, of one BOY: a mean of nothing is 0", "BOYS 04 10", "like(0, 1, -50)", "like(1, 0, 50)",
                "day(1, 5, NONE)", "kept(1, 4) = NONE");
        b.bound("the own ahead of the change", "BOYS 04 00 10", "LAW 0: add 50;", "day(1, 5, NONE)",
                "kept(1, 4) = NONE");
        b.bound("own of LOT 1", "BOYS 06 10 10", "like(1, 2, 10)", "like(2, 1, 10)", "day(1, 5, NONE)",
                "kept(1, 4) = NONE");
    }

    /** Two BOYS of LOT 0 with so much STRENGTH together and these LIKES for one another: who wins. */
    private static void own(String words, int strength, int forth, int back, String winner) {
        b.bound(words, "BOYS 0" + strength + " 00 10", "like(0, 1, " + forth + ")", "like(1, 0, " + back + ")",
                "day(1, 5, NONE)", "kept(1, 4) = " + winner);
    }

    private static void likes() {
        b.bound("held to -50 .. 50: too large", FOUR, "like(0, 1, 50)", "like(0, 2, 49)", "like(0, 3, 48)",
                "LAW 0: add 2;", "day(0, 0, NONE)", "of(0, 101) = 50", "of(0, 102) = 50", "of(0, 103) = 50",
                "of(1, 100) = 2");
        b.bound("held to -50 .. 50: too small", FOUR, "like(0, 1, -50)", "like(0, 2, -49)", "like(0, 3, -48)",
                "LAW 0: add 0-2;", "day(0, 0, NONE)", "of(0, 101) = -50", "of(0, 102) = -50", "of(0, 103) = -50",
                "of(1, 100) = -2");
        b.bound("held on each DAY anew", FOUR, "LAW 0: add 40 when day<2;add 0-40;", "2 x day(0, 0, NONE)",
                "of(0, 101) = 50", "day(0, 0, NONE)", "of(0, 101) = 10", "2 x day(0, 0, NONE)", "of(0, 101) = -50");
        b.bound("(wholly, without wrapping): the most", FOUR, "like(0, 1, 50)", "like(0, 2, 1)", "like(0, 3, -50)",
                "LAW 0: add " + Checks.MOST + ";", "day(0, 0, NONE)", "of(0, 101) = 50", "of(0, 102) = 50",
                "of(0, 103) = 50");
        b.bound("(wholly, without wrapping): the least", FOUR, "like(0, 1, -50)", "like(0, 2, -1)", "like(0, 3, 50)",
                "LAW 0: add " + Checks.LEAST + ";", "day(0, 0, NONE)", "of(0, 101) = -50", "of(0, 102) = -50",
                "of(0, 103) = -50");
        b.bound("(all asked ahead of any change)", FOUR, "like(0, 1, 3)", "like(1, 0, 10)", "like(3, 0, -4)",
                "LAW 0: add back;", "day(0, 0, NONE)", "of(0, 101) = 13", "of(1, 100) = 13", "of(0, 103) = -4",
                "of(3, 100) = -4");
        b.bound("0 without one", FOUR, "like(0, 1, 3)", "LAW 0: add 9 when 1=2;see 5;slip 4;", "day(0, 0, NONE)",
                "of(0, 101) = 3");
        b.bound("for all couples of BOYS THERE", FOUR, "LAW 0: home 1 when strong=2 and day=0;add 1 when day=1;",
                "2 x day(0, 0, NONE)", "of(0, 101) = 0", "of(1, 100) = 0", "of(0, 102) = 1", "of(3, 102) = 1");
        b.bound("one BOY alone is no couple", "BOYS 01", "LAW 0: add 5;", "day(0, 0, NONE)", "of(0, 100) = -100",
                "lot(0, 1) = 0");
        b.bound("the last of 24", "24 x boy(0, 0)", "LAW 0: add 5;", "day(0, 0, NONE)", "of(23, 100) = 5",
                "of(0, 123) = 5", "of(22, 123) = 5", "lot(0, 1) = 5");
    }

    private static void fights() {
        b.bound("above 0 it FIGHTS: 1 is", FOUR, "LAW 0: fight 1;", "day(0, 0, NONE) = 2", "lot(0, 5) = 1",
                "lot(1, 4) = 1");
        b.bound("above 0 it FIGHTS: 0 is not", FOUR, "LAW 0: fight 0;fight 1;", "day(0, 0, NONE) = 0", "lot(0, 5) = 0",
                "lot(1, 4) = 0");
        b.bound("above 0 it FIGHTS: -1 is not", FOUR, "LAW 0: fight 0-1;", "day(0, 0, NONE) = 0", "lot(0, 5) = 0",
                "look(5) = 0");
        b.bound("above 0 it FIGHTS: the least int is not", FOUR, "LAW 0: fight " + Checks.LEAST + ";",
                "day(0, 0, NONE) = 0", "lot(0, 5) = 0");
        b.bound("999 at most each time: 998, 999", FOUR, "LAW 0: fight 998+wronged;", "day(0, 0, 1) = 2",
                "lot(0, 5) = 998", "lot(1, 5) = 999");
        b.bound("999 at most each time: 1000", FOUR, "LAW 0: fight 1000;", "day(0, 0, 1) = 2", "lot(0, 5) = 999",
                "lot(1, 5) = 999");
        b.bound("999 at most each time: the most", FOUR, "LAW 0: fight " + Checks.MOST + ";", "2 x day(0, 0, 1) = 2",
                "lot(0, 5) = 1998");
        b.bound("each time", FOUR, "LAW 0: fight 600;", "3 x day(0, 0, 1) = 2", "lot(0, 5) = 1800", "lot(0, 4) = 3");
        b.bound("what fight asks of the LIKES is behind add", FOUR, "LAW 0: add 1;fight own+across-1;",
                "day(0, 0, 1) = 2", "lot(0, 5) = 1");
        b.bound("of a LOT without BOYS", "BOYS 01", "LAW 0: fight 1-size+own+across;", "day(0, 0, NONE) = 1",
                "kept(1, 5) = 2");
    }

    private static void homes() {
        b.bound("above 0 he is GONE: 1 is", FOUR, "LAW 0: home 1 when strong=1;", "day(0, 0, NONE)", "of(0, 2) = 0",
                "look(1) = 3", "look(0) = 4");
        b.bound("above 0 he is GONE: 0 is not", FOUR, "LAW 0: home 0;home 1;", "day(0, 0, NONE)", "look(1) = 4");
        b.bound("above 0 he is GONE: -1 is not", FOUR, "LAW 0: home 0-1;", "day(0, 0, NONE)", "look(1) = 4");
        b.bound("above 0 he is GONE: the most and the least", FOUR,
                "LAW 0: home " + Checks.LEAST + " when strong<3;home " + Checks.MOST + ";", "day(0, 0, NONE)",
                "look(1) = 2", "of(0, 2) = 1", "of(3, 2) = 0");
        b.bound("(all asked ahead)", FOUR, "LAW 0: home size-1;", "day(0, 0, NONE)", "look(1) = 0", "lot(0, 0) = 0",
                "lot(1, 0) = 0");
        b.bound("Of a BOY i own, across, like, strong, size", "BOYS 00 01 02 13 14", "like(1, 0, 4)", "like(2, 0, 7)",
                "like(3, 0, -8)", "like(4, 0, 1)", "like(0, 1, 9)", "like(0, 2, -2)",
                "LAW 0: home 1 when own=5 and across=0-4 and like=3 and strong=0 and size=3;", "day(0, 0, NONE)",
                "of(0, 2) = 0", "look(1) = 4");
        b.bound("Of a BOY i of LOT 1", "BOYS 00 01 13 14 15", "like(2, 4, 4)", "like(3, 4, 7)", "like(0, 4, -8)",
                "like(1, 4, 1)", "like(4, 2, 9)", "like(4, 3, -2)",
                "LAW 0: home 1 when own=5 and across=0-4 and like=3 and strong=5 and size=3;", "day(0, 0, NONE)",
                "of(4, 2) = 0", "look(1) = 4");
        b.bound("THERE (till they are GONE)", FOUR, "LAW 0: home 1 when day=0 and strong=1;", "3 x day(0, 0, NONE)",
                "of(0, 2) = 0", "look(1) = 3");
        b.bound("a DAY when all are GONE", FOUR, "LAW 0: home 1;add 5;fight 1-size;", "day(1, 5, 0) = 0", "look(1) = 0",
                "day(1, 5, 0) = 2", "kept(2, 6) = 0", "kept(2, 0) = 0", "kept(2, 2) = 0", "of(0, 101) = 5");
        b.bound("all 24 at once", "24 x boy(1, 9)", "LAW 0: home 1;", "day(0, 0, NONE)", "look(1) = 0",
                "of(23, 2) = 0");
    }

    private static void names() {
        b.bound("above 0 it has one: 1 is", FOUR, "LAW 0: name 1;", "day(0, 0, NONE)", "lot(0, 3) = 1",
                "lot(1, 3) = 1");
        b.bound("above 0 it has one: 0 is not", FOUR, "LAW 0: name 0;name 1;", "day(0, 0, NONE)", "lot(0, 3) = 0",
                "lot(1, 3) = 0");
        b.bound("above 0 it has one: -1 is not", FOUR, "LAW 0: name wronged*2-1;", "day(0, 0, 1)", "lot(0, 3) = 0",
                "lot(1, 3) = 1");
        b.bound("without a NAME: it comes once", FOUR, "LAW 0: name day;", "4 x day(0, 0, NONE)", "lot(0, 3) = 2",
                "lot(1, 3) = 2");
        b.bound("on the 60th DAY", FOUR, "LAW 0: name 1 when day=59;", "59 x day(0, 0, NONE)", "lot(0, 3) = 0",
                "day(0, 0, NONE)", "lot(0, 3) = 60");
        b.bound("behind those who go home", FOUR, "LAW 0: home 1 when strong=1;name 1 when size=1;", "day(0, 0, NONE)",
                "lot(0, 3) = 1", "lot(1, 3) = 0");
        b.bound("of a LOT without BOYS", "BOYS 01", "LAW 0: name 1-size+own+across;", "day(0, 0, NONE)",
                "lot(0, 3) = 0", "lot(1, 3) = 1");
    }

    /** "the others 0": what is told by a law of all that is not asked about. */
    private static void facts() {
        b.bound("won, lost, wronged: 1 or 0", FOUR, "LAW 0: fight won*4+lost*2+wronged+100;", "day(1, 5, 0)",
                "lot(0, 5) = 103", "lot(1, 5) = 104");
        b.bound("won, lost: of the other LOT", "BOYS 09 10", "LAW 0: fight won*4+lost*2+100;", "day(1, 5, NONE)",
                "lot(0, 5) = 104", "lot(1, 5) = 102");
        b.bound("won, lost, wronged of a BOY's LOT", FOUR,
                "LAW 0: home 1 when won=1 and strong=4;home 1 when lost=1 and wronged=1 and strong=2;", "day(1, 5, 0)",
                "of(3, 2) = 0", "of(1, 2) = 0", "look(1) = 2");
        b.bound("same, knew: 1 or 0", FOUR, "knew(0, 1, true)", "LAW 0: add same*10+knew;", "day(0, 0, NONE)",
                "of(0, 101) = 11", "of(2, 103) = 10", "of(0, 102) = 0");
        b.bound("Of a couple the others 0", FOUR, "like(0, 1, 5)", "like(1, 0, 5)", "LAW 0: add own+across+size;",
                "day(0, 0, NONE)", "of(0, 101) = 5");
        b.bound("Of a LOT the others 0", FOUR, "knew(0, 1, true)", "like(0, 1, 5)", "like(2, 0, 5)",
                "LAW 0: fight same+knew+like+back+strong;name same+knew+like+back+strong;", "day(0, 0, NONE) = 0",
                "lot(0, 3) = 0", "lot(1, 3) = 0");
        b.bound("Of a BOY the others 0", FOUR, "knew(0, 1, true)", "like(1, 0, 9)", "LAW 0: home same+knew+back;",
                "day(0, 0, NONE)", "look(1) = 4");
        b.bound("of a BOY alone in his LOT: a mean of nothing is 0", "BOYS 01", "LAW 0: home own+across+like+size-1;",
                "day(0, 0, NONE)", "look(1) = 1");
        b.bound("a mean goes downwards", FOUR, "like(0, 1, -1)", "like(2, 0, -1)", "LAW 0: fight 0-own*10-across;",
                "day(0, 0, NONE) = 2", "lot(0, 5) = 10", "lot(1, 5) = 1");
    }

    private static void plan() {
        b.promise(12);
        b.bound("NONE if there is none such: too small", "plan(-1) = NONE", "plan(MIN) = NONE", "look(2) = 0");
        b.bound("NONE if there is none such: too large", "plan(4) = NONE", "plan(MAX) = NONE", "look(2) = 0");
        b.bound("0 .. 3", "PLAN 0: apart;", "PLAN 3: beside;beside;", "plan(0) = 1", "plan(3) = 2", "look(2) = 3");
        b.bound("an empty one", "plan(2) = 0", "look(2) = 0");
        b.bound("one of stir alone", "PLAN 0: stir 0;stir 1;", "plan(0) = 0", "look(2) = 0", "lot(1, 8) = 0");
        b.bound("one of 24 DAYS", "PLAN 0: " + "together;".repeat(24), "plan(0) = 24", "kept(24, 7) = 3",
                "look(2) = 24");
        b.bound("If DAYS would be more than 60, it ends", "PLAN 0: beside;apart;together;", "58 x day(0, 0, NONE)",
                "plan(0) = 2", "look(2) = 60", "kept(59, 7) = 2", "kept(60, 7) = 0", "plan(0) = 0", "look(2) = 60");
        b.bound("60 are not more than 60", "PLAN 0: " + "beside;".repeat(12), "48 x day(0, 0, NONE)", "plan(0) = 12",
                "look(2) = 60");
        b.bound("behind the 60th none is WRONGED", "PLAN 0: stir 0;beside;stir 1;beside;", "59 x day(0, 0, NONE)",
                "plan(0) = 1", "lot(0, 8) = 1", "lot(1, 8) = 0", "plan(0) = 0", "lot(0, 8) = 1");
        b.bound("several: the last one", "PLAN 0: stir 0;stir 1;stir 0;apart;", "plan(0) = 1", "lot(0, 8) = 1",
                "lot(1, 8) = 0", "PLAN 0: stir 1;stir 1;apart;", "plan(0) = 1", "lot(1, 8) = 1");
        b.bound("on the next DAY of it, and no other", "PLAN 0: apart;stir 1;apart;apart;", "plan(0) = 3",
                "lot(1, 8) = 1", "lot(0, 8) = 0");
        b.bound("behind the last DAY none is", "PLAN 0: apart;stir 1;", "plan(0) = 1", "day(0, 0, NONE)", "plan(0) = 1",
                "lot(1, 8) = 0", "PLAN 1: beside;", "plan(1) = 1", "lot(1, 8) = 0");
        b.bound("against N: 0, 9", FOUR, "LAW 0: add prize when same=1;", "PLAN 0: against 0;", "plan(0) = 1",
                "of(0, 101) = 0", "PLAN 0: against 9;", "plan(0) = 1", "of(0, 101) = 9");
    }

    private static void lot() {
        b.promise(14);
        b.bound("none such: too small, too large", "lot(-1, 0) = -100", "lot(2, 0) = -100", "lot(MIN, 1) = -100",
                "lot(MAX, 8) = -100");
        b.bound("another what: too small, too large", "lot(0, -1) = -100", "lot(0, 9) = -100", "lot(1, MIN) = -100",
                "lot(1, MAX) = -100", "lot(1, 100) = -100");
        b.bound("0 BOYS THERE: all, none", "24 x boy(1, 0)", "lot(1, 0) = 24", "lot(0, 0) = 0", "LAW 0: home 1;",
                "day(0, 0, NONE)", "lot(1, 0) = 0");
        b.bound("1 own: of one, a mean of nothing is 0", "BOYS 00 10", "like(0, 1, 50)", "lot(0, 1) = 0",
                "lot(1, 1) = 0");
        b.bound("1 own goes downwards", "BOYS 00 00", "like(0, 1, -1)", "lot(0, 1) = -1", "like(1, 0, 2)",
                "lot(0, 1) = 0");
        b.bound("2 across: with nobody across, a mean of nothing is 0", "BOYS 00 00", "like(0, 1, 50)", "lot(0, 2) = 0",
                "lot(1, 2) = 0");
        b.bound("2 across goes downwards", FOUR, "like(0, 2, -1)", "like(2, 0, 3)", "lot(0, 2) = -1", "lot(1, 2) = 0");
        b.bound("means of the most and the least", FOUR, "like(0, 1, 50)", "like(1, 0, 50)", "like(2, 3, -50)",
                "like(3, 2, -50)", "lot(0, 1) = 50", "lot(1, 1) = -50");
        b.bound("3 the DAY (1, 2, ..; 0 without)", FOUR, "LAW 0: name wronged;", "lot(0, 3) = 0", "day(0, 0, 0)",
                "lot(0, 3) = 1", "lot(1, 3) = 0", "day(0, 0, 1)", "lot(1, 3) = 2");
        b.bound("4 DAYS on which it FOUGHT, 5 HEAT: once, though by more", FOUR, "LAW 0: fight 7;", "day(0, 0, NONE)",
                "lot(0, 4) = 1", "lot(0, 5) = 7");
        b.bound("7 friends across: none, all", "12 x boy(0, 0)", "12 x boy(1, 0)", "LAW 0: slip same;", "lot(0, 7) = 0",
                "lot(1, 7) = 0", "LAW 0: slip 0-same;", "lot(0, 7) = 36", "lot(1, 7) = 36");
        b.bound("8 how often it was WRONGED: twice on two DAYS", "2 x day(1, 0, 1)", "lot(1, 8) = 2", "lot(0, 8) = 0");
    }

    private static void kept() {
        b.promise(15);
        b.bound("a DAY (1, 2, ..): too small", "day(0, 0, NONE)", "kept(0, 0) = -100", "kept(-1, 0) = -100",
                "kept(MIN, 0) = -100");
        b.bound("a DAY that has not gone by", "2 x day(0, 0, NONE)", "kept(2, 7) = 0", "kept(3, 7) = -100",
                "kept(60, 7) = -100", "kept(MAX, 7) = -100");
        b.bound("of no DAY gone by", "kept(0, 0) = -100", "kept(1, 0) = -100");
        b.bound("the 60th and no 61st", "60 x day(3, 0, NONE)", "kept(60, 7) = 3", "kept(61, 7) = -100");
        b.bound("another what", "day(3, 0, NONE)", "kept(1, -1) = -100", "kept(1, 8) = -100", "kept(1, MIN) = -100",
                "kept(1, MAX) = -100", "kept(1, 7) = 3", "kept(1, 0) = 0");
        b.bound("who won (NONE)", "BOYS 04 10", "day(0, 0, NONE)", "kept(1, 4) = NONE", "day(1, 0, NONE)",
                "kept(2, 4) = NONE", "day(1, 0, NONE)", "kept(3, 4) = 0", "state(0)", "day(0, 0, NONE)",
                "kept(4, 4) = NONE");
        b.bound("the FIGHTING LOTS as a set: 0 .. 3", "LAW 0: fight wronged;", "day(0, 0, NONE)", "day(0, 0, 0)",
                "day(0, 0, 1)", "LAW 0: fight 1;", "day(0, 0, NONE)", "kept(1, 5) = 0", "kept(2, 5) = 1",
                "kept(3, 5) = 2", "kept(4, 5) = 3");
        b.bound("how many BOYS are THERE: behind those who go home", FOUR, "LAW 0: home 1 when strong=3;",
                "day(0, 0, NONE)", "kept(1, 6) = 3");
        b.bound("own and across go downwards, behind the change", FOUR, "like(0, 1, -2)", "like(3, 1, -2)",
                "LAW 0: add 0-1 when like<0;", "day(0, 0, NONE)", "kept(1, 0) = -2", "kept(1, 1) = 0", "kept(1, 2) = 0",
                "kept(1, 3) = -1");
        b.bound("0, 1 own, 2, 3 across", FOUR, "like(0, 1, 10)", "like(2, 3, 20)", "like(0, 2, 12)", "like(3, 1, -16)",
                "day(0, 0, NONE)", "kept(1, 0) = 5", "kept(1, 1) = 10", "kept(1, 2) = 3", "kept(1, 3) = -4");
        b.bound("what was KEPT stays", FOUR, "like(0, 1, 8)", "day(1, 0, NONE)", "like(0, 1, -50)", "force(2)",
                "day(0, 0, NONE)", "kept(1, 0) = 4", "kept(1, 7) = 1", "kept(2, 0) = -25");
    }
}
