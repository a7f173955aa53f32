/** Each boundary that promises 26 to 30 name: number, cut, woods, image, look. */
public final class BoundsOfCutsTest {
    private static final Bounds b = new Bounds();

    public static void main(String[] args) {
        number();
        cut();
        woods();
        image();
        imageOfAll();
        look();
        b.end("BoundsOfCutsTest", 26, 27, 28, 29, 30);
    }

    private static void number() {
        b.promise(26);
        b.bound("NUMBERS 0 .. 99: too small, too large", "BOYS 00 10", "number(0, 5)", "number(1, 5)",
                "number(0, -1) = false", "number(0, 100) = false", "number(0, MIN) = false", "number(0, MAX) = false",
                "cut(0) = 2");
        b.bound("NUMBERS 0 .. 99: the least and the most", "BOYS 00 10", "number(0, 99) = true", "cut(0) = 1",
                "number(1, 99) = true", "cut(0) = 2", "number(0, 0) = true", "cut(0) = 2", "number(1, 0) = true",
                "cut(0) = 2", "number(0, 1) = true", "cut(0) = 1");
        b.bound("of BOYS: none such", "BOYS 00 10", "number(2, 5) = false", "number(-1, 5) = false",
                "number(24, 5) = false", "number(MIN, 5) = false", "number(MAX, 5) = false");
        b.bound("with nobody in the wood", "number(0, 5) = false", "boy(0, 0)", "boy(1, 0)", "cut(0) = 2");
        b.bound("the 24th", "24 x boy(0, 0)", "number(23, 99) = true", "number(24, 99) = false");
    }

    private static void cut() {
        b.promise(27);
        b.bound("NONE for another what", "cut(-1) = NONE", "cut(3) = NONE", "cut(MIN) = NONE", "cut(MAX) = NONE");
        b.bound("with nobody in the wood: one way", "cut(0) = 1", "cut(1) = 1", "cut(2) = 1000");
        b.bound("LOT 0 has none THERE: one way", "BOYS 10 10 10", "number(0, 99)", "cut(0) = 1", "cut(1) = 1",
                "cut(2) = 1000");
        b.bound("LOT 0 has all: one way", "BOYS 00 00 00", "number(0, 99)", "cut(0) = 1", "cut(1) = 1",
                "cut(2) = 1000");
        b.bound("one of each", "BOYS 00 10", "cut(0) = 2", "cut(1) = 2", "number(0, 1)", "cut(0) = 1", "cut(2) = 500");
        b.bound("as great or greater: as great", "BOYS 00 00 10 10", "number(0, 3)", "number(1, 4)", "number(2, 5)",
                "number(3, 2)", "cut(0) = 4", "cut(1) = 6", "cut(2) = 666", "number(2, 4)", "number(3, 3)",
                "cut(0) = 5");
        b.bound("as great or greater: one less", "BOYS 00 00 10 10", "number(0, 4)", "number(1, 4)", "number(2, 5)",
                "number(3, 2)", "cut(0) = 3", "cut(2) = 500");
        b.bound("all NUMBERS 0, all 99", "12 x boy(0, 0)", "12 x boy(1, 0)", "cut(0) = 2704156", "cut(1) = 2704156",
                "cut(2) = 1000");
        b.bound("the greatest sums: all NUMBERS 99", nines(12), "cut(0) = 2704156", "cut(1) = 2704156", "cut(2) = 1000",
                "number(12, 98)", "cut(0) = 1352078", "cut(2) = 500", "number(12, 99)", "number(0, 98)",
                "cut(0) = 2704156");
        b.bound("the greatest sums: of the greater LOT", nines(23), "cut(0) = 24", "number(22, 0)", "cut(0) = 24",
                "number(23, 0)", "cut(0) = 2", "number(22, 1)", "cut(0) = 1");
        b.bound("LOT 0 itself is one of the ways: the greatest", "12 x boy(0, 0)", "12 x boy(1, 0)", "number(0, 1)",
                "number(1, 1)", "number(2, 1)", "number(3, 1)", "number(4, 1)", "number(5, 1)", "number(6, 1)",
                "number(7, 1)", "number(8, 1)", "number(9, 1)", "number(10, 1)", "number(11, 1)", "cut(0) = 1",
                "cut(1) = 2704156", "cut(2) = 0");
        b.bound("AS TWO goes downwards", "BOYS 00 10 10", "number(1, 1)", "cut(0) = 3", "number(0, 1)", "cut(0) = 2",
                "cut(2) = 666", "number(0, 2)", "cut(0) = 1", "cut(2) = 333");
        b.bound("of the BOYS THERE, as LOT 0 has THERE", "BOYS 09 01 10 10", "number(0, 99)", "number(1, 7)",
                "number(2, 7)", "number(3, 6)", "LAW 0: home 1 when strong=9;", "cut(1) = 6", "cut(0) = 2",
                "day(0, 0, NONE)", "cut(1) = 3", "cut(0) = 2", "cut(2) = 666");
        b.bound("when all are GONE", "BOYS 00 10", "number(0, 99)", "LAW 0: home 1;", "day(0, 0, NONE)", "cut(0) = 1",
                "cut(1) = 1", "cut(2) = 1000");
        b.bound("23 against 1 of 24", "23 x boy(0, 0)", "boy(1, 0)", "number(23, 1)", "cut(0) = 24", "cut(1) = 24",
                "number(0, 1)", "cut(0) = 24", "number(1, 1)", "number(23, 0)", "cut(0) = 22", "cut(2) = 916");
        b.bound("1 against 23 of 24", "boy(0, 0)", "23 x boy(1, 0)", "number(0, 99)", "cut(0) = 1", "cut(1) = 24",
                "number(23, 99)", "cut(0) = 2", "cut(2) = 83");
    }

    /** 24 BOYS with NUMBERS of 99, so many of them in LOT 0. */
    private static String[] nines(int first) {
        String[] run = new String[26];
        run[0] = first + " x boy(0, 0)";
        run[1] = 24 - first + " x boy(1, 0)";
        for (int i = 0; i < 24; i++) {
            run[2 + i] = "number(" + i + ", 99)";
        }
        return run;
    }

    private static void woods() {
        b.promise(28);
        b.bound("k 0 .. 9: too small, too large", "woods(-1, 2) = NONE", "woods(10, 2) = NONE", "woods(MIN, 2) = NONE",
                "woods(MAX, 2) = NONE");
        b.bound("a told number (2 .. 100000): too small, too large", "woods(0, 1) = NONE", "woods(0, 0) = NONE",
                "woods(0, -2) = NONE", "woods(0, 100001) = NONE", "woods(0, MIN) = NONE", "woods(0, MAX) = NONE");
        b.bound("k 0 .. 9: the least and the most", "woods(0, 2) = 2", "woods(9, 2) = 20", "woods(9, 100000) = 48");
        b.bound("a told number: the least and the most", "woods(0, 2) = 2", "woods(0, 100000) = 17");
        b.bound("below one of a told number: not one of it", "woods(0, 4) = 3", "woods(0, 3) = 2",
                "woods(0, 65536) = 17", "woods(0, 65535) = 16");
        // 1 + 3 of 8 are one of two; 1 + 4 of 16 are below one of three, 5 of 15 would not be.
        b.bound("k or fewer: all of them count", "woods(1, 2) = 4", "woods(1, 3) = 4", "woods(2, 2) = 6",
                "woods(1, 4) = 5");
        // 2^(2k+1): a half of all go k or fewer the other way.
        b.bound("one half is not below one of 2", "woods(3, 2) = 8", "woods(4, 2) = 10", "woods(8, 2) = 18");
    }

    private static void image() {
        b.promise(29);
        b.bound("false if there is none", "boy(0, 0)", "image(false) = false", "look(0) = 1");
        b.bound("taken: true", "image(true) = true", "image(true) = true");
        b.bound("gone back to", "boy(0, 0)", "image(true) = true", "boy(1, 0)", "image(false) = true", "look(0) = 1");
        b.bound("gone back to it may be more than once", "boy(0, 0)", "image(true)", "boy(1, 0)", "image(false) = true",
                "boy(1, 0)", "image(false) = true", "2 x boy(1, 0)", "image(false) = true", "look(0) = 1");
        b.bound("as it was when it was taken", "BOYS 00 10", "like(0, 1, 5)", "image(true)", "like(0, 1, 7)",
                "image(false)", "of(0, 101) = 5", "like(0, 1, 9)", "image(false)", "of(0, 101) = 5");
        b.bound("taken anew", "BOYS 00 10", "image(true)", "like(0, 1, 5)", "image(true)", "like(0, 1, 7)",
                "image(false)", "of(0, 101) = 5");
        b.bound("of nobody in the wood", "image(true)", "24 x boy(1, 9)", "24 x number(0, 5)", "image(false) = true",
                "look(0) = 0", "boy(0, 1) = 0", "of(0, 0) = 0", "of(0, 1) = 1", "cut(1) = 1");
        b.bound("a BOY who comes then is a new one", "BOYS 00", "image(true)", "BOYS 19", "like(0, 1, 5)",
                "like(1, 0, 6)", "knew(0, 1, true)", "number(1, 9)", "image(false)", "BOYS 02", "of(1, 0) = 0",
                "of(1, 1) = 2", "of(0, 101) = 0", "of(1, 100) = 0", "LAW 0: see knew;", "beans(0, 1, 0) = 0", "BOYS 10",
                "number(2, 1)", "cut(0) = 3");
        b.bound("ahead of the first DAY", "BOYS 00", "image(true)", "60 x day(0, 0, NONE)", "boy(0, 0) = NONE",
                "image(false)", "look(2) = 0", "kept(1, 0) = -100", "kept(60, 0) = -100", "boy(0, 0) = 1",
                "day(0, 0, NONE) = 0", "look(2) = 1", "kept(1, 7) = 0");
        b.bound("behind the 60th DAY", "BOYS 00", "60 x day(2, 0, NONE)", "image(true)", "day(2, 0, NONE) = NONE",
                "image(false)", "look(2) = 60", "day(2, 0, NONE) = NONE", "kept(60, 7) = 2");
    }

    private static void imageOfAll() {
        b.bound("LAWS", "BOYS 00 10", "LAW 0: see 1;", "image(true)", "LAW 0: see 2;see 3;", "LAW 3: see 9;",
                "image(false)", "beans(0, 1, 0) = 1", "force(3)", "beans(0, 1, 0) = 0");
        b.bound("PLANS", "PLAN 0: stir 1;apart;", "image(true)", "PLAN 0: beside;beside;", "PLAN 3: beside;",
                "image(false)", "plan(0) = 1", "kept(1, 7) = 0", "lot(1, 8) = 1", "plan(3) = 0");
        b.bound("the LAW IN FORCE", "force(2)", "image(true)", "force(3)", "image(false)", "look(4) = 2");
        b.bound("STATE", "state(5)", "image(true)", "state(6)", "image(false)", "state(0) = 5");
        b.bound("LIKES, KNEW, THERE, LOYAL", "BOYS 01 12", "like(0, 1, 5)", "knew(0, 1, true)", "image(true)",
                "LAW 0: home 1 when strong=1;slip 0;", "day(0, 0, NONE)", "knew(0, 1, false)", "like(0, 1, 6)",
                "look(6) = 1", "image(false)", "of(0, 101) = 5", "of(0, 2) = 1", "look(6) = 2", "LAW 0: see knew;",
                "beans(1, 0, 0) = 1");
        b.bound("NAMES, FOUGHT, HEAT, DAYS won, WRONGED", "BOYS 01 12", "image(true)", "LAW 0: name 1;fight 1;",
                "day(1, 5, 0)", "lot(0, 3) = 1", "lot(1, 6) = 1", "image(false)", "lot(0, 3) = 0", "lot(0, 4) = 0",
                "lot(0, 5) = 0", "lot(1, 6) = 0", "lot(0, 8) = 0", "look(5) = 0");
        b.bound("the last DAY", "BOYS 01 12", "LAW 0: see kind*1000+prize*100+day*10+won*4+lost*2+wronged;",
                "day(1, 7, 0)", "image(true)", "day(3, 0, 1)", "beans(0, 1, 0) = 3010", "image(false)",
                "beans(0, 1, 0) = 1703", "beans(1, 0, 0) = 1704");
        b.bound("KEPT", "BOYS 01 12", "day(1, 0, NONE)", "image(true)", "2 x day(3, 0, NONE)", "image(false)",
                "kept(1, 7) = 1", "kept(1, 4) = 1", "kept(2, 7) = -100", "day(2, 0, NONE)", "kept(2, 7) = 2");
        b.bound("ROW", "BOYS 00 10", "LAW 1: add kind;", "row(3)", "image(true)", "row(NONE)", "row(2)", "row(2)",
                "image(false)", "look(7) = 1", "parts(0, 1, 0) = 3");
        b.bound("CROSS that was told", "PLAN 0: apart;apart;", "told(1, 5)", "image(true)", "told(1, -100)",
                "told(2, 9)", "off(0, 0) = 9", "image(false)", "off(0, 0) = 5");
        b.bound("NUMBERS", "BOYS 00 10", "number(0, 5)", "image(true)", "number(0, 0)", "cut(0) = 2", "image(false)",
                "cut(0) = 1");
        b.bound("all but the TAPE", "feed(1, 2, 3, 4, 5)", "image(true)", "feed(1, 2, 3, 4, 5)", "image(false)",
                "end(40) = true", "end(0)", "image(false)", "end(1) = false");
        b.bound("a LAW is fed ahead, told behind", "BOYS 00 10", "image(true)",
                "feed(1936024864, 926621728, 538976288, 538976288, 538976288) = 20", "image(false)", "text(0, 0) = 1",
                "beans(0, 1, 0) = 7");
    }

    private static void look() {
        b.promise(30);
        b.bound("NONE - 99 for another what", "look(-1) = -100", "look(8) = -100", "look(MIN) = -100",
                "look(MAX) = -100");
        b.bound("0 BOYS, 1 BOYS THERE: none, all 24, all GONE", "look(0) = 0", "look(1) = 0", "24 x boy(0, 0)",
                "look(0) = 24", "look(1) = 24", "LAW 0: home 1;", "day(0, 0, NONE)", "look(0) = 24", "look(1) = 0");
        b.bound("2 DAYS: 0, 60", "look(2) = 0", "60 x day(0, 0, NONE)", "look(2) = 60");
        b.bound("3 CROSS: a mean of nothing is 0", "BOYS 00 00", "like(0, 1, -50)", "look(3) = 0");
        b.bound("3 CROSS goes downwards", "BOYS 00 10", "like(0, 1, -1)", "look(3) = -1", "like(1, 0, 1)",
                "look(3) = 0", "like(1, 0, 2)", "look(3) = 0", "like(1, 0, 3)", "look(3) = 1");
        b.bound("3 CROSS of the most and the least", "BOYS 00 10", "like(0, 1, 50)", "like(1, 0, 50)", "look(3) = 50",
                "like(0, 1, -50)", "like(1, 0, -50)", "look(3) = -50");
        b.bound("4 the LAW IN FORCE: 0, 3", "look(4) = 0", "force(3)", "look(4) = 3", "force(4) = NONE", "look(4) = 3");
        b.bound("5 FIGHTS in all: none, two a DAY", "look(5) = 0", "LAW 0: fight 9;", "60 x day(0, 0, NONE)",
                "look(5) = 120");
        b.bound("6 LOYAL ones: all, none", "5 x boy(0, 0)", "look(6) = 5", "day(0, 0, NONE)", "look(6) = 0");
        b.bound("7 in ROW: none, five", "look(7) = 0", "5 x row(0)", "look(7) = 5", "row(0) = -2", "look(7) = 5");
    }
}
