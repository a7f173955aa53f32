/** Each boundary that promises 13, 16, 17 name, and who stays LOYAL: of, beans, seen. */
public final class BoundsOfSlipsTest {
    private static final String SIX = "BOYS 00 01 02 13 14 15";
    private static final Bounds b = new Bounds();

    public static void main(String[] args) {
        of();
        friends();
        worths();
        gone();
        loyal();
        beans();
        lastDay();
        seen();
        b.end("BoundsOfSlipsTest", 13, 16, 17);
    }

    private static void of() {
        b.promise(13);
        b.bound("NONE - 99 if there is none such: too small", SIX, "of(-1, 0) = -100", "of(MIN, 0) = -100",
                "of(-1, 100) = -100", "of(MIN, 3) = -100");
        b.bound("NONE - 99 if there is none such: too large", SIX, "of(6, 0) = -100", "of(24, 7) = -100",
                "of(MAX, 0) = -100", "of(6, 100) = -100", "of(5, 0) = 1");
        b.bound("with nobody in the wood", "of(0, 0) = -100", "of(0, 2) = -100", "of(0, 101) = -100");
        b.bound("another what: too small, too large", SIX, "of(0, -1) = -100", "of(0, 12) = -100", "of(0, 99) = -100",
                "of(0, MIN) = -100", "of(0, MAX) = -100", "of(0, 0) = 0", "of(0, 11) = 0");
        b.bound("100 + j for a BOY who is none", SIX, "of(0, 106) = -100", "of(0, 123) = -100", "of(0, 124) = -100",
                "of(0, 105) = 0");
        b.bound("LIKE of a BOY for another one: not for himself", SIX, "of(0, 100) = -100", "of(5, 105) = -100",
                "of(5, 100) = 0", "of(0, 105) = 0");
        b.bound("9 own, 11 like of a BOY alone in his LOT: a mean of nothing is 0", "BOYS 00 10", "like(0, 1, 50)",
                "like(1, 0, 50)", "of(0, 9) = 0", "of(0, 11) = 0", "of(0, 10) = 50");
        b.bound("10 across with nobody across: a mean of nothing is 0", "BOYS 00 00", "like(1, 0, 50)", "of(0, 10) = 0",
                "of(0, 9) = 50");
        b.bound("9, 10, 11 go downwards", SIX, "like(1, 0, -1)", "like(3, 0, -1)", "like(0, 2, -1)", "of(0, 9) = -1",
                "of(0, 10) = -1", "of(0, 11) = -1", "like(2, 0, 2)", "of(0, 9) = 0");
        b.bound("9, 10, 11 of a BOY of LOT 1", SIX, "like(3, 5, 4)", "like(4, 5, 2)", "like(0, 5, -6)", "like(5, 4, 8)",
                "like(5, 0, 50)", "of(5, 9) = 3", "of(5, 10) = -2", "of(5, 11) = 4");
        b.bound("9, 10, 11 of the most and the least", "BOYS 00 00 10", "like(1, 0, 50)", "like(2, 0, -50)",
                "like(0, 1, -50)", "of(0, 9) = 50", "of(0, 10) = -50", "of(0, 11) = -50");
    }

    private static void friends() {
        b.bound("FRIENDS (NONE: no such): of one alone", "BOYS 00", "of(0, 3) = NONE", "of(0, 4) = NONE",
                "of(0, 5) = NONE", "of(0, 6) = 0", "of(0, 8) = 0", "lot(0, 7) = 0");
        b.bound("fewer, if there are not as many: one", "BOYS 00 10", "of(0, 3) = 1", "of(0, 4) = NONE",
                "of(0, 5) = NONE", "of(0, 6) = 1", "of(0, 8) = 1");
        b.bound("fewer, if there are not as many: two", "BOYS 00 10 00", "of(0, 3) = 1", "of(0, 4) = 2",
                "of(0, 5) = NONE", "of(0, 6) = 1", "of(0, 8) = 2");
        b.bound("the three: just as many", "BOYS 00 10 00 10", "of(0, 3) = 1", "of(0, 4) = 2", "of(0, 5) = 3",
                "of(0, 6) = 2", "of(3, 3) = 0", "of(3, 5) = 2", "of(3, 8) = 3");
        b.bound("the three: one more", "BOYS 00 10 00 10 10", "of(0, 3) = 1", "of(0, 4) = 2", "of(0, 5) = 3",
                "of(4, 8) = 0", "of(3, 8) = 3");
        b.bound("though the worth is the least", "BOYS 00 10", "like(0, 1, -50)", "of(0, 3) = 1");
        b.bound("of several the least number", SIX, "like(5, 0, 1)", "like(5, 4, 1)", "like(5, 2, 1)", "of(5, 3) = 0",
                "of(5, 4) = 2", "of(5, 5) = 4", "like(5, 3, 1)", "of(5, 5) = 3");
        b.bound("by it: greater ones come ahead", SIX, "like(0, 5, 3)", "like(0, 4, 2)", "like(0, 3, 1)",
                "of(0, 3) = 5", "of(0, 4) = 4", "of(0, 5) = 3", "like(0, 1, 2)", "of(0, 4) = 1", "of(0, 5) = 4");
        b.bound("8 how many have him: all others, some, none", "24 x boy(0, 0)", "of(0, 8) = 23", "of(1, 8) = 23",
                "of(2, 8) = 23", "of(3, 8) = 3", "of(4, 8) = 0", "of(23, 8) = 0");
        b.bound("6 how many are of the other LOT: none, all", SIX, "LAW 0: slip same;", "of(0, 6) = 1", "of(5, 6) = 1",
                "LAW 0: slip 0-same;", "of(0, 6) = 3", "of(5, 6) = 3", "boy(0, 0)", "LAW 0: slip same;",
                "of(0, 6) = 0");
    }

    private static void worths() {
        b.bound("without a line of that word that HOLDS his LIKE", SIX, "like(0, 5, 1)", "like(0, 1, -1)",
                "LAW 0: slip 9 when 1=2;see 5;", "of(0, 3) = 5", "of(0, 4) = 2", "of(0, 5) = 3");
        b.bound("a line that TELLS 0 HOLDS", SIX, "like(0, 5, 1)", "like(0, 1, -1)", "LAW 0: slip 0;", "of(0, 3) = 1",
                "of(0, 4) = 2", "of(0, 5) = 3");
        b.bound("his LIKE beside what slip TELLS", SIX, "like(0, 2, -3)", "like(0, 3, -6)", "like(0, 4, -5)",
                "LAW 0: slip 0-5 when strong=1 or strong=5;slip 0-9 when strong=3;", "of(0, 3) = 2", "of(0, 4) = 1",
                "of(0, 5) = 4");
        b.bound("the greatest worth: the most and the least int", SIX,
                "LAW 0: slip " + Checks.LEAST + " when strong=1;slip " + Checks.MOST + " when strong=5;slip 0-1;",
                "of(0, 3) = 5", "of(0, 4) = 2", "of(0, 5) = 3", "of(1, 8) = 0");
        b.bound("the least int is a worth, too", "BOYS 00 11 12 13",
                "LAW 0: slip " + Checks.LEAST + " when strong<3;slip " + Checks.LEAST + "+1;", "of(0, 3) = 3",
                "of(0, 4) = 1", "of(0, 5) = 2");
        b.bound("worth wraps as ints do", SIX, "LAW 0: slip " + Checks.MOST + "+strong;", "of(0, 3) = 5",
                "of(0, 4) = 4", "of(0, 5) = 3", "of(5, 3) = 0", "of(5, 4) = 4", "of(5, 5) = 3");
    }

    private static void gone() {
        String home = "LAW 0: home 1 when strong=0;";
        b.bound("FRIENDS of one who is GONE: none", SIX, home, "day(0, 0, NONE)", "of(0, 3) = NONE", "of(0, 4) = NONE",
                "of(0, 5) = NONE", "of(0, 6) = 0");
        b.bound("nobody has one who is GONE as a FRIEND", SIX, "like(1, 0, 50)", home, "day(0, 0, NONE)",
                "of(0, 8) = 0", "of(1, 3) = 2", "of(1, 4) = 3", "of(1, 5) = 4");
        b.bound("9 .. 11 as if he were THERE", SIX, "like(1, 0, 8)", "like(2, 0, 2)", "like(3, 0, -9)",
                "like(0, 1, -6)", "like(0, 2, -1)", home, "day(0, 0, NONE)", "of(0, 9) = 5", "of(0, 10) = -3",
                "of(0, 11) = -4");
        b.bound("9 .. 11 by those who are THERE", SIX, "like(1, 0, 8)", "like(2, 0, 2)", "like(0, 1, -6)",
                "like(3, 1, 9)", "like(4, 1, 4)", "LAW 0: home 1 when strong<2;home 1 when strong=3;",
                "day(0, 0, NONE)", "of(0, 9) = 2", "of(0, 11) = 0", "of(1, 9) = 0", "of(1, 10) = 2", "of(2, 9) = 0");
        b.bound("9 .. 11 when all are GONE: a mean of nothing is 0", SIX, "like(1, 0, 8)", "like(3, 0, 8)",
                "like(0, 1, 8)", "LAW 0: home 1;", "day(0, 0, NONE)", "of(0, 9) = 0", "of(0, 10) = 0", "of(0, 11) = 0",
                "lot(0, 1) = 0", "look(3) = 0");
        b.bound("LOT, STRENGTH, LIKE of one who is GONE", SIX, "like(5, 0, 8)", "LAW 0: home 1;", "day(0, 0, NONE)",
                "of(5, 0) = 1", "of(5, 1) = 5", "of(5, 2) = 0", "of(5, 100) = 8");
        b.bound("LIKE and KNEW may be told of one who is GONE", SIX, home, "day(0, 0, NONE)", "like(0, 1, -50) = true",
                "of(0, 101) = -50", "knew(0, 1, true) = true", "like(0, 0, 1) = false");
    }

    private static void loyal() {
        b.bound("of whose FRIENDS one is of the other LOT: one of three", SIX, "LAW 0: slip same;", "day(0, 0, NONE)",
                "look(6) = 6", "of(0, 7) = 1", "of(5, 7) = 1");
        b.bound("of whose FRIENDS one is: none of three", SIX, "boy(0, 0)", "LAW 0: slip same;", "day(0, 0, NONE)",
                "look(6) = 3", "of(0, 7) = 0", "of(6, 7) = 0", "of(5, 7) = 1");
        b.bound("of whose FRIENDS one is: all three", SIX, "LAW 0: slip 0-same;", "day(0, 0, NONE)", "look(6) = 6");
        b.bound("one alone has no FRIENDS", "BOYS 00", "of(0, 7) = 1", "day(0, 0, NONE)", "of(0, 7) = 0",
                "look(6) = 0");
        b.bound("fewer than three, one across", "BOYS 00 10", "day(0, 0, NONE)", "look(6) = 2");
        b.bound("who were LOYAL till now: never again", SIX, "boy(0, 0)", "LAW 0: slip same;", "day(0, 0, NONE)",
                "LAW 0: slip 0-same;", "day(0, 0, NONE)", "look(6) = 3", "of(0, 7) = 0", "of(0, 6) = 3");
        b.bound("of all BOYS THERE: one who is GONE stays so", "BOYS 00 11", "LAW 0: home strong;", "day(0, 0, NONE)",
                "of(1, 7) = 1", "of(0, 7) = 0", "look(6) = 1", "day(0, 0, NONE)", "look(6) = 1");
        b.bound("by the LIKES behind the change", SIX, "boy(0, 0)", "LAW 0: add same;", "day(0, 0, NONE)",
                "look(6) = 3");
        b.bound("by those who have not gone home on that DAY", SIX, "boy(0, 9)",
                "LAW 0: slip same;home 1 when strong=9;", "day(0, 0, NONE)", "look(6) = 7");
        b.bound("a slip of that DAY asks of that DAY", SIX, "boy(0, 0)",
                "LAW 0: slip same when kind=2 and day=0 and wronged=1;slip 0-same;", "day(2, 0, 0)", "look(6) = 3",
                "of(0, 7) = 0");
        b.bound("a DAY that can't be changes none", "BOYS 00", "day(4, 0, NONE) = NONE", "of(0, 7) = 1");
    }

    private static void beans() {
        b.promise(16);
        b.bound("of n (0 .. 999): too small, too large", SIX, "beans(0, 1, -1) = NONE", "beans(0, 1, MIN) = NONE",
                "beans(0, 1, 1000) = NONE", "beans(0, 1, MAX) = NONE");
        b.bound("of n (0 .. 999): the least and the most", SIX, "beans(0, 1, 0) = 0", "beans(0, 1, 999) = 999");
        b.bound("NONE if one can't be: one and himself", SIX, "beans(0, 0, 5) = NONE", "beans(5, 5, 5) = NONE");
        b.bound("NONE if one can't be: one who is none", SIX, "beans(-1, 0, 5) = NONE", "beans(0, -1, 5) = NONE",
                "beans(6, 0, 5) = NONE", "beans(0, 6, 5) = NONE", "beans(MIN, 0, 5) = NONE", "beans(0, MAX, 5) = NONE",
                "beans(24, 0, 5) = NONE", "beans(0, 24, 5) = NONE");
        b.bound("NONE with nobody in the wood", "beans(0, 1, 5) = NONE", "beans(0, 0, 0) = NONE");
        b.bound("one is not THERE", SIX, "LAW 0: home 1 when strong=1;", "day(0, 0, NONE)", "beans(0, 1, 5) = NONE",
                "beans(1, 0, 5) = NONE", "beans(0, 2, 5) = 5");
        b.bound("held to 0 .. 9999: too small", SIX, "LAW 0: see 0-5;", "beans(0, 1, 5) = 0", "beans(0, 1, 4) = 0",
                "beans(0, 1, 0) = 0", "beans(0, 1, 6) = 1");
        b.bound("held to 0 .. 9999: too large", SIX, "LAW 0: see 9990;", "beans(0, 1, 9) = 9999",
                "beans(0, 1, 10) = 9999", "beans(0, 1, 999) = 9999", "beans(0, 1, 8) = 9998");
        b.bound("(wholly, without wrapping)", SIX, "LAW 0: see " + Checks.MOST + ";", "beans(0, 1, 0) = 9999",
                "beans(0, 1, 999) = 9999", "LAW 0: see " + Checks.LEAST + ";", "beans(0, 1, 0) = 0",
                "beans(0, 1, 999) = 0");
        b.bound("what see TELLS, 0 without one", SIX, "LAW 0: see 5 when 1=2;slip 9;", "beans(0, 1, 7) = 7");
        b.bound("by BOY i with j: the LOT is i's", "BOYS 01 12", "LAW 0: see strong+wronged*100+like+back*10;",
                "like(0, 1, 3)", "day(0, 0, 1)", "beans(0, 1, 0) = 5", "beans(1, 0, 0) = 131");
    }

    /** "for slips and beans those of the last DAY, 0 ahead of the first one" */
    private static void lastDay() {
        String see = "LAW 0: see kind*1000+prize*100+day*10+won*4+lost*2+wronged;";
        b.bound("0 ahead of the first one", "BOYS 00 10", see, "beans(0, 1, 0) = 0", "beans(1, 0, 0) = 0",
                "LAW 0: slip kind+prize+day+won+lost+wronged;", "of(0, 3) = 1");
        b.bound("day of the last DAY: 0 behind the first", "BOYS 00 10", see, "day(2, 0, 1)", "beans(0, 1, 0) = 2000",
                "beans(1, 0, 0) = 2001");
        b.bound("day of the last DAY: 59 behind the 60th", "BOYS 00 10", see, "60 x day(0, 0, NONE)",
                "beans(0, 1, 0) = 590");
        b.bound("won, lost on that DAY", "BOYS 00 10", see, "day(1, 9, 0)", "beans(0, 1, 0) = 1903",
                "beans(1, 0, 0) = 1904", "day(0, 0, NONE)", "beans(0, 1, 0) = 10", "beans(1, 0, 0) = 10");
        b.bound("won, lost: alike neither", "BOYS 04 10", see, "day(1, 0, NONE)", "beans(0, 1, 0) = 1000",
                "beans(1, 0, 0) = 1000");
        b.bound("a DAY that can't be is none", "BOYS 00 10", see, "day(3, 0, 0)", "day(1, 10, 1) = NONE",
                "beans(0, 1, 0) = 3001", "beans(1, 0, 0) = 3000");
        b.bound("a DAY IN THOUGHT is none", "BOYS 00 10", see, "PLAN 0: stir 0;against 9;", "led(0, 0, true, 6) = 1",
                "least(0, 9) = NONE", "beans(0, 1, 0) = 0");
    }

    private static void seen() {
        b.promise(17);
        b.bound("n (0 .. 999): too small, too large", SIX, "seen(-1, 0) = -10000", "seen(MIN, 1) = -10000",
                "seen(1000, 2) = -10000", "seen(MAX, 0) = -10000");
        b.bound("n (0 .. 999): the least and the most", SIX, "seen(0, 0) = 0", "seen(999, 1) = 999",
                "seen(999, 2) = 0");
        b.bound("another what", SIX, "seen(5, -1) = -10000", "seen(5, 3) = -10000", "seen(5, MIN) = -10000",
                "seen(5, MAX) = -10000");
        b.bound("a mean of nothing is 0: one alone", "BOYS 00", "seen(999, 0) = 0", "seen(999, 1) = 0",
                "seen(999, 2) = 0");
        b.bound("a mean of nothing is 0: nobody else of his LOT", "BOYS 00 10", "seen(7, 0) = 0", "seen(7, 1) = 7",
                "seen(7, 2) = -7");
        b.bound("a mean of nothing is 0: nobody across", "BOYS 00 00", "seen(7, 0) = 7", "seen(7, 1) = 0",
                "seen(7, 2) = 7");
        b.bound("a mean goes downwards", "BOYS 00 00 10", "LAW 0: see strong+back;", "like(1, 0, 1)", "like(2, 0, 3)",
                "seen(5, 0) = 5", "seen(5, 1) = 5", "like(0, 1, 1)", "seen(5, 0) = 6");
        b.bound("the first less the second: each a mean by itself", "BOYS 00 00 10", "LAW 0: see like;",
                "like(0, 1, 1)", "like(0, 2, 3)", "like(1, 2, 3)", "like(2, 0, 3)", "like(2, 1, 2)", "seen(5, 0) = 5",
                "seen(5, 1) = 7", "seen(5, 2) = -2");
        b.bound("each held to 0 .. 9999", SIX, "LAW 0: see 9999*9999 when same=1;see 0-9999*9999;",
                "seen(999, 0) = 9999", "seen(999, 1) = 0", "seen(999, 2) = 9999",
                "LAW 0: see 9999*9999 when same=0;see 0-9999*9999;", "seen(0, 2) = -9999");
        b.bound("by all 24", "12 x boy(0, 0)", "12 x boy(1, 0)", "LAW 0: see 9000+same;", "seen(998, 0) = 9999",
                "seen(998, 1) = 9998", "seen(998, 2) = 1");
        b.bound("by all BOYS THERE", SIX, "LAW 0: see strong;home 1 when strong>2;", "seen(0, 1) = 2",
                "day(0, 0, NONE)", "seen(0, 1) = 0", "seen(0, 0) = 1");
    }
}
