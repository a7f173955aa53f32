/** Each boundary that promises 1 to 5 name: a new object, boy, like, knew, state. */
public final class BoundsOfBoysTest {
    private static final Bounds b = new Bounds();

    public static void main(String[] args) {
        newObject();
        boy();
        like();
        knew();
        state();
        b.end("BoundsOfBoysTest", 1, 2, 3, 4, 5);
    }

    private static void newObject() {
        b.promise(1);
        b.bound("Nobody in the wood", "look(0) = 0", "look(1) = 0", "look(6) = 0", "lot(0, 0) = 0", "lot(1, 0) = 0",
                "of(0, 0) = -100");
        b.bound("a mean of nothing is 0", "lot(0, 1) = 0", "lot(0, 2) = 0", "lot(1, 1) = 0", "lot(1, 2) = 0",
                "look(3) = 0", "seen(999, 0) = 0", "seen(999, 1) = 0", "seen(999, 2) = 0");
        b.bound("STATE (an int, 0 at first)", "state(1) = 0");
        b.bound("THERE", "boy(1, 0) = 0", "of(0, 2) = 1");
        b.bound("LIKE 0 at first", "BOYS 00 10", "of(0, 101) = 0", "of(1, 100) = 0");
        b.bound("Two KNEW one another, if that was told", "BOYS 00 10", "LAW 0: see knew;", "beans(0, 1, 7) = 7",
                "beans(1, 0, 7) = 7");
        b.bound("LAWS 0 .. 3 are TEXTS (empty at first)", "BOYS 00 10", "PLAN 0: against 9;", "led(0, 0, true, 0) = 0",
                "led(0, 1, true, 2) = 0", "led(0, 2, true, 3) = 0", "led(0, 3, true, 5) = 0", "day(1, 9, 0) = 0",
                "of(0, 101) = 0", "beans(0, 1, 5) = 5");
        b.bound("PLANS 0 .. 3 are TEXTS (empty at first)", "plan(0) = 0", "plan(1) = 0", "plan(2) = 0", "plan(3) = 0",
                "led(0, 0, true, 6) = 0", "led(3, 3, true, 6) = 0", "look(2) = 0");
        b.bound("the LAW IN FORCE (0 at first)", "look(4) = 0", "force(0) = 0");
        b.bound("DAYS, FIGHTS, ROW: none", "look(2) = 0", "look(5) = 0", "look(7) = 0", "kept(1, 0) = -100");
        b.bound("no LOT has a NAME, FOUGHT, won, was WRONGED", "lot(0, 3) = 0", "lot(0, 4) = 0", "lot(0, 5) = 0",
                "lot(0, 6) = 0", "lot(0, 7) = 0", "lot(0, 8) = 0", "lot(1, 3) = 0", "lot(1, 4) = 0", "lot(1, 5) = 0",
                "lot(1, 6) = 0", "lot(1, 7) = 0", "lot(1, 8) = 0");
        b.bound("LOYAL (all at first)", "BOYS 00 10", "of(0, 7) = 1", "of(1, 7) = 1", "look(6) = 2");
        b.bound("of no DAY CROSS was told", "BOYS 00 10", "PLAN 0: apart;", "LAW 1: add 7;", "off(0, 1) = 0");
        b.bound("NUMBERS of BOYS (0 at first)", "BOYS 00 00 10", "cut(0) = 3", "number(2, 1) = true", "cut(0) = 3",
                "number(0, 1) = true", "cut(0) = 3", "number(1, 1) = true", "cut(0) = 3", "number(2, 0) = true",
                "cut(0) = 1");
        b.bound("the TAPE is empty", "end(0) = true", "end(1) = false", "text(0, 0) = 0");
        b.bound("no FAULT", "fault(0) = 0", "fault(1) = NONE");
        b.bound("no IMAGE", "image(false) = false");
    }

    private static void boy() {
        b.promise(2);
        b.bound("BOYS as they come: his number", "boy(1, 9) = 0", "boy(0, 0) = 1", "look(0) = 2");
        b.bound("a LOT 0, 1: too small", "boy(-1, 0) = NONE", "boy(MIN, 0) = NONE", "look(0) = 0");
        b.bound("a LOT 0, 1: too large", "boy(2, 0) = NONE", "boy(MAX, 0) = NONE", "look(0) = 0");
        b.bound("a LOT 0, 1: the least and the most", "boy(0, 5) = 0", "boy(1, 5) = 1", "of(0, 0) = 0", "of(1, 0) = 1",
                "lot(0, 0) = 1", "lot(1, 0) = 1");
        b.bound("STRENGTH 0 .. 9: too small", "boy(0, -1) = NONE", "boy(0, MIN) = NONE", "look(0) = 0");
        b.bound("STRENGTH 0 .. 9: too large", "boy(1, 10) = NONE", "boy(1, MAX) = NONE", "look(0) = 0");
        b.bound("STRENGTH 0 .. 9: the least and the most", "boy(1, 0) = 0", "boy(1, 9) = 1", "of(0, 1) = 0",
                "of(1, 1) = 9");
        b.bound("BOYS 0 .. 23: the last one", "23 x boy(0, 1)", "boy(1, 8) = 23", "of(23, 0) = 1", "of(23, 1) = 8",
                "of(23, 2) = 1", "of(23, 100) = 0", "of(0, 123) = 0", "like(23, 0, 7) = true", "of(23, 100) = 7");
        b.bound("there are 24", "24 x boy(1, 9)", "boy(0, 0) = NONE", "boy(1, 9) = NONE", "look(0) = 24",
                "of(24, 0) = -100", "lot(0, 0) = 0", "lot(1, 0) = 24");
        b.bound("a DAY has gone by", "boy(0, 0) = 0", "day(0, 0, NONE)", "boy(0, 0) = NONE", "look(0) = 1");
        b.bound("a DAY has gone by with nobody in the wood", "day(2, 0, NONE)", "boy(1, 1) = NONE", "look(0) = 0");
        b.bound("a DAY of a PLAN has gone by", "PLAN 0: apart;", "plan(0) = 1", "boy(0, 0) = NONE");
        b.bound("a DAY that can't be has not gone by", "day(0, 1, NONE) = NONE", "boy(0, 0) = 0");
        b.bound("an empty PLAN is no DAY gone by", "PLAN 1: stir 0;", "plan(1) = 0", "boy(0, 0) = 0");
        b.bound("a DAY IN THOUGHT has not gone by", "PLAN 0: apart;", "led(0, 0, true, 6) = 1", "boy(0, 0) = 0");
    }

    private static void like() {
        b.promise(3);
        b.bound("-50 .. 50: the most", "BOYS 00 10", "like(0, 1, 50) = true", "of(0, 101) = 50", "of(1, 100) = 0");
        b.bound("-50 .. 50: the least", "BOYS 00 10", "like(1, 0, -50) = true", "of(1, 100) = -50", "of(0, 101) = 0");
        b.bound("-50 .. 50: too large", "BOYS 00 10", "like(0, 1, 3)", "like(0, 1, 51) = false",
                "like(0, 1, MAX) = false", "of(0, 101) = 3");
        b.bound("-50 .. 50: too small", "BOYS 00 10", "like(0, 1, 3)", "like(0, 1, -51) = false",
                "like(0, 1, MIN) = false", "of(0, 101) = 3");
        b.bound("false if one can't be (himself)", "BOYS 00 10", "like(0, 0, 5) = false", "like(1, 1, 0) = false",
                "of(0, 100) = -100");
        b.bound("for one who is none", "BOYS 00 10", "like(0, 2, 5) = false", "like(0, -1, 5) = false",
                "like(0, 24, 5) = false", "like(0, MAX, 5) = false", "like(0, MIN, 5) = false");
        b.bound("of one who is none", "BOYS 00 10", "like(2, 0, 5) = false", "like(-1, 0, 5) = false",
                "like(24, 0, 5) = false", "like(MAX, 0, 5) = false", "like(MIN, 0, 5) = false");
        b.bound("with nobody in the wood", "like(0, 1, 5) = false", "like(0, 0, 0) = false");
        b.bound("told again", "BOYS 00 00", "like(0, 1, 50)", "like(0, 1, -50)", "of(0, 101) = -50", "like(0, 1, 0)",
                "of(0, 101) = 0");
        b.bound("the last BOY and the first", "24 x boy(0, 0)", "like(23, 0, 1) = true", "like(0, 23, 2) = true",
                "like(23, 23, 1) = false", "of(23, 100) = 1", "of(0, 123) = 2", "of(22, 123) = 0");
    }

    private static void knew() {
        b.promise(4);
        b.bound("Two KNEW one another", "BOYS 00 10", "LAW 0: see knew;", "knew(0, 1, true) = true",
                "beans(0, 1, 0) = 1", "beans(1, 0, 0) = 1");
        b.bound("(or not)", "BOYS 00 10", "LAW 0: see knew;", "knew(0, 1, true)", "knew(1, 0, false) = true",
                "beans(0, 1, 0) = 0", "beans(1, 0, 0) = 0");
        b.bound("told twice, then not", "BOYS 00 10", "LAW 0: see knew;", "2 x knew(0, 1, true) = true",
                "beans(0, 1, 0) = 1", "knew(0, 1, false) = true", "beans(0, 1, 0) = 0", "knew(0, 1, false) = true",
                "beans(0, 1, 0) = 0");
        b.bound("one and himself", "BOYS 00 10", "knew(0, 0, true) = false", "knew(1, 1, false) = false");
        b.bound("one who is none", "BOYS 00 10", "knew(0, 2, true) = false", "knew(2, 0, true) = false",
                "knew(-1, 0, true) = false", "knew(0, -1, true) = false", "knew(24, 0, false) = false",
                "knew(0, 24, true) = false", "knew(MAX, 0, true) = false", "knew(0, MIN, true) = false");
        b.bound("with nobody in the wood", "knew(0, 1, true) = false");
        b.bound("a BOY who comes later is no one that was known", "BOYS 00", "knew(0, 1, true) = false", "boy(1, 0)",
                "LAW 0: see knew;", "beans(0, 1, 0) = 0");
        b.bound("the last BOY and the first", "24 x boy(0, 0)", "LAW 0: see knew;", "knew(23, 0, true) = true",
                "beans(0, 23, 0) = 1", "beans(23, 0, 0) = 1", "beans(23, 1, 0) = 0", "beans(22, 0, 0) = 0",
                "knew(0, 23, false) = true", "beans(23, 0, 0) = 0");
    }

    /** With nobody in the wood the SCORES are the DRAWS alone. */
    private static void state() {
        b.promise(5);
        b.bound("what it was", "state(MAX) = 0", "state(MIN) = MAX", "state(-1) = MIN", "state(0) = -1");
        b.bound("STATE becomes 1664525 STATE + 1013904223 (ints, which wrap)", "state(0)", "day(1, 0, NONE)",
                "state(MAX) = 1196435762", "day(1, 0, NONE)", "state(MIN) = -1340617591", "day(1, 0, NONE)",
                "state(-1) = -951047886", "day(1, 0, NONE)", "state(0) = 806866057");
        // The second DRAW comes of -1667907812: 1 without the sign, -5 with it; the first is 0.
        b.bound("its highest 24 bits (without sign)", "state(-294)", "day(1, 0, NONE)", "kept(1, 4) = 1");
        // -775096599 and -1426500812: 4 and 7.
        b.bound("both without sign", "state(1196435762)", "day(1, 0, NONE)", "kept(1, 4) = 1");
        b.bound("modulo m: of 10 a 9 is the most, beside an 8", "state(-1426500812)", "day(1, 0, NONE)",
                "kept(1, 4) = 0");
        b.bound("modulo m: a 0 is the least, beside a 1", "state(-1)", "day(1, 0, NONE)", "kept(1, 4) = 0");
        b.bound("no DRAW on another DAY than against", "state(77)", "day(0, 0, 0)", "day(2, 0, 1)", "day(3, 0, NONE)",
                "state(0) = 77");
        b.bound("a DRAW for each LOT, though nobody is of it", "state(0)", "day(1, 9, 0)", "state(0) = 1196435762");
    }
}
