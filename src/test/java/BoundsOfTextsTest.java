/** Each boundary that promises 6 to 9 name: feed, end, text, fault, and what E and B come to. */
public final class BoundsOfTextsTest {
    private static final Bounds b = new Bounds();

    public static void main(String[] args) {
        feed();
        end();
        text();
        fault();
        cannotStand();
        theEnd();
        tooGreat();
        lines();
        open();
        firstFault();
        tokens();
        sums();
        claims();
        told();
        b.end("BoundsOfTextsTest", 6, 7, 8, 9);
    }

    private static void feed() {
        b.promise(6);
        b.bound("Twenty bytes come behind the TAPE: how many it has", "feed(0, 0, 0, 0, 0) = 20",
                "feed(MAX, MIN, -1, 1, 0) = 40", "end(40) = true", "end(41) = false");
        b.bound("more than 500", "24 x feed(1, 2, 3, 4, 5)", "feed(1, 2, 3, 4, 5) = 500",
                "2 x feed(1, 2, 3, 4, 5) = NONE");
        b.bound("nothing comes", "25 x feed(1, 2, 3, 4, 5)", "feed(6, 7, 8, 9, 0) = NONE", "end(501) = false",
                "end(500) = true");
        b.bound("501 would be more than 500", "25 x feed(0, 0, 0, 0, 0)", "end(481)", "feed(0, 0, 0, 0, 0) = NONE",
                "end(482) = false", "end(481) = true");
        b.bound("500 are not more than 500", "25 x feed(0, 0, 0, 0, 0)", "end(480)", "feed(0, 0, 0, 0, 0) = 500");
        b.bound("behind a TAPE that is cut", "feed(0, 0, 0, 0, 0)", "end(7)", "feed(0, 0, 0, 0, 0) = 27");
        // "see ", "1;se", "e 2;", blanks and line ends.
        b.bound("of each number the highest first", "BOYS 00 00",
                "feed(1936024864, 825979749, 1696608827, 538976288, 168430090) = 20", "text(0, 0) = 2",
                "beans(0, 1, 5) = 6");
        b.bound("a byte above 127", "feed(-1, 0, 0, 0, 0)", "end(1)", "text(0, 0) = NONE", "fault(0) = 1",
                "fault(1) = 0");
        // Blanks, then 10, 10, 10 and 128 as the lowest byte.
        b.bound("a byte of 128 is the lowest of its number", "feed(538976288, 168430208, 538976288, 0, 0)", "end(12)",
                "text(1, 0) = NONE", "fault(0) = 1", "fault(1) = 7");
    }

    private static void end() {
        b.promise(7);
        b.bound("n is below 0", "feed(1, 2, 3, 4, 5)", "end(-1) = false", "end(MIN) = false", "end(20) = true");
        b.bound("it has not so many", "feed(1, 2, 3, 4, 5)", "end(21) = false", "end(MAX) = false", "end(20) = true");
        b.bound("of an empty TAPE", "end(1) = false", "end(-1) = false", "end(0) = true");
        b.bound("all of its bytes", "feed(1, 2, 3, 4, 5)", "2 x end(20) = true", "feed(1, 2, 3, 4, 5) = 40");
        b.bound("none of its bytes", "feed(1, 2, 3, 4, 5)", "end(0) = true", "end(1) = false", "text(0, 0) = 0");
        b.bound("its first n bytes alone", "feed(1, 2, 3, 4, 5)", "end(19) = true", "end(20) = false",
                "end(19) = true");
        b.bound("the first ones stay, and they alone", "BOYS 00 00",
                "feed(1936024864, 825979749, 1696608827, 538976288, 168430090)", "end(6)", "text(0, 0) = 1");
        b.bound("changing nothing", "BOYS 00 00", "feed(1936024864, 825979749, 1696608827, 538976288, 168430090)",
                "end(21) = false", "end(-1) = false", "text(0, 0) = 2");
        b.bound("a full TAPE", "25 x feed(1, 2, 3, 4, 5)", "end(501) = false", "end(500) = true", "end(499) = true");
    }

    private static void text() {
        b.promise(8);
        b.bound("an empty TAPE", "BOYS 00 00", "LAW 0: see 1;", "text(0, 0) = 0", "beans(0, 1, 5) = 5",
                "PLAN 0: apart;", "text(1, 0) = 0", "plan(0) = 0");
        b.bound("nothing but blanks", "LAW 0:  \n  \n = 0", "PLAN 0: \n\n  = 0", "fault(0) = 0");
        b.bound("sort 0, 1: too small", "text(-1, 0) = NONE", "text(MIN, 0) = NONE", "fault(0) = 0");
        b.bound("sort 0, 1: too large", "text(2, 0) = NONE", "text(MAX, 0) = NONE", "fault(0) = 0");
        b.bound("LAW k (k 0 .. 3): the least and the most", "BOYS 00 00", "LAW 0: see 4; = 1", "LAW 3: see 7; = 1",
                "beans(0, 1, 0) = 4", "force(3)", "beans(0, 1, 0) = 7");
        b.bound("LAW k: too small, too large", "text(0, -1) = NONE", "text(0, 4) = NONE", "text(0, MIN) = NONE",
                "text(0, MAX) = NONE", "fault(0) = 0", "fault(1) = NONE");
        b.bound("PLAN k (0 .. 3): the least and the most", "PLAN 0: apart; = 1", "PLAN 3: stir 0;beside;against 0; = 3",
                "led(0, 0, true, 6) = 1", "led(3, 0, true, 6) = 2");
        b.bound("PLAN k: too small, too large", "text(1, -1) = NONE", "text(1, 4) = NONE", "text(1, MIN) = NONE",
                "text(1, MAX) = NONE", "fault(0) = 0", "fault(1) = NONE");
        b.bound("the TAPE, empty then", "LAW 0: see 1;", "end(1) = false", "end(0) = true", "text(0, 0) = 0");
        b.bound("the TAPE is empty for none such", "feed(1, 2, 3, 4, 5)", "text(0, 4) = NONE", "end(1) = false",
                "feed(1, 2, 3, 4, 5)", "text(2, 0) = NONE", "end(1) = false", "feed(1, 2, 3, 4, 5)",
                "text(1, -1) = NONE", "end(1) = false");
        b.bound("the TAPE is empty for a FAULT", "LAW 0: see = 1 at 3", "end(1) = false", "PLAN 0: stir = 1 at 4",
                "end(1) = false");
        b.bound("a LAW with a FAULT stays as it was", "BOYS 00 00", "LAW 0: see 1;add 2;",
                "LAW 0: see 5;see 6;see = 1 at 15", "beans(0, 1, 0) = 1", "day(0, 0, NONE)", "of(0, 101) = 2");
        b.bound("a PLAN with a FAULT stays as it was", "PLAN 1: stir 1;beside;",
                "PLAN 1: apart;against 7;stir 2; = 2 at 21", "plan(1) = 1", "kept(1, 7) = 2", "lot(1, 8) = 1");
        b.bound("another TEXT stays as it was", "BOYS 00 00", "LAW 1: see 1;", "LAW 2: see 2;", "LAW 1: ; = 1 at 0",
                "force(1)", "beans(0, 1, 0) = 1", "force(2)", "beans(0, 1, 0) = 2");
        b.bound("a shorter TEXT leaves nothing of a longer one", "BOYS 00 00", "LAW 0: add 1;add 2;see 3;slip 4;",
                "LAW 0: add 5 when 1=2; = 1", "day(0, 0, NONE)", "of(0, 101) = 0", "beans(0, 1, 0) = 0",
                "PLAN 0: beside;beside;beside;", "PLAN 0: against 1; = 1", "plan(0) = 1", "kept(2, 7) = 1");
        b.bound("a full TAPE", "BOYS 00 00", "LAW 0: see1" + "+1".repeat(247) + "; = 1", "beans(0, 1, 0) = 248",
                "LAW 0: see 7" + " ".repeat(495) + " = 1 at 500", "LAW 0: see 7;" + "\n".repeat(494) + " = 1",
                "beans(0, 1, 0) = 7");
        b.bound("the last byte of a full TAPE", "LAW 0: " + " ".repeat(499) + "; = 1 at 499",
                "LAW 0: " + "\n".repeat(494) + "see 1; = 1", "PLAN 0: " + " ".repeat(494) + "stir 2 = 2 at 499");
        b.bound("told again and again", "BOYS 00 00",
                "20 x LAW 0: " + "see 1 when 1=2;".repeat(15) + "see 4+2*5 when 1=1; = 16", "beans(0, 1, 0) = 14",
                "20 x PLAN 0: " + "stir 1;apart;".repeat(12) + " = 24", "plan(0) = 12", "lot(1, 8) = 12");
        b.bound("a LAW is told while it is in force", "BOYS 00 00", "day(0, 0, NONE)", "LAW 0: add 3;",
                "day(0, 0, NONE)", "LAW 0: ", "day(0, 0, NONE)", "of(0, 101) = 3");
    }

    private static void fault() {
        b.promise(9);
        b.bound("0 without one", "LAW 0: see 1;", "fault(0) = 0", "fault(1) = NONE");
        b.bound("none ahead of any text()", "fault(0) = 0", "fault(1) = NONE", "fault(2) = NONE");
        b.bound("NONE for another what", "LAW 0: see = 1 at 3", "fault(-1) = NONE", "fault(2) = NONE",
                "fault(MIN) = NONE", "fault(MAX) = NONE", "fault(0) = 1", "fault(1) = 3");
        b.bound("of the latest text()", "LAW 0: see = 1 at 3", "LAW 1: see 1/0; = 2 at 6", "PLAN 0: ; = 1 at 0",
                "PLAN 0: apart;", "fault(0) = 0", "fault(1) = NONE");
        b.bound("no such one (fault() tells 0)", "LAW 0: see = 1 at 3", "text(0, 4) = NONE", "fault(0) = 0",
                "fault(1) = NONE", "PLAN 0: a = 1 at 0", "text(2, 0) = NONE", "fault(0) = 0", "fault(1) = NONE");
        b.bound("feed and end are no text()", "LAW 0: see = 1 at 3", "feed(0, 0, 0, 0, 0)", "end(0)", "fault(0) = 1",
                "fault(1) = 3");
    }

    private static void cannotStand() {
        b.promise(8);
        b.bound("a line's word", "LAW 0: ; = 1 at 0", "LAW 0: 1; = 1 at 0", "LAW 0: when 1=1; = 1 at 0",
                "LAW 0: kind; = 1 at 0", "LAW 0: see 1;; = 1 at 6", "LAW 0: see 1;1 = 1 at 6");
        b.bound("KEYWORDS (those told for such a TEXT)", "LAW 0: apart; = 1 at 0", "LAW 0: stir 1; = 1 at 0",
                "LAW 0: see against; = 1 at 4", "PLAN 0: add 1; = 1 at 0", "PLAN 0: against day; = 1 at 8",
                "PLAN 0: beside when 1=1; = 1 at 7");
        b.bound("U", "LAW 0: see ; = 1 at 4", "LAW 0: see add; = 1 at 4", "LAW 0: see when; = 1 at 4",
                "LAW 0: see (1); = 1 at 4", "LAW 0: see -1; = 1 at 4", "LAW 0: see +1; = 1 at 4",
                "LAW 0: see not 1; = 1 at 4", "LAW 0: see 1+; = 1 at 6", "LAW 0: see 1-; = 1 at 6",
                "LAW 0: see 1*; = 1 at 6", "LAW 0: see 1*-1; = 1 at 6", "LAW 0: see 1*(1); = 1 at 6");
        b.bound("/ NUMBER alone", "LAW 0: see 1/; = 1 at 6", "LAW 0: see 1/like; = 1 at 6", "LAW 0: see 1/-1; = 1 at 6",
                "LAW 0: see 1/1/day; = 1 at 8", "LAW 0: see 1/2*3/4; = 1");
        b.bound("behind E", "LAW 0: see 1 2; = 1 at 6", "LAW 0: see 1 day; = 1 at 6", "LAW 0: see 1=1; = 1 at 5",
                "LAW 0: see 1 and 1; = 1 at 6", "LAW 0: see 1); = 1 at 5", "LAW 0: see 1 see 1; = 1 at 6");
        b.bound("a sign between two E, one alone", "LAW 0: see 1 when 1; = 1 at 12", "LAW 0: see 1 when 1+1; = 1 at 14",
                "LAW 0: see 1 when 1=1=1; = 1 at 14", "LAW 0: see 1 when 1<=1; = 1 at 13",
                "LAW 0: see 1 when =1; = 1 at 11", "LAW 0: see 1 when 1=; = 1 at 13");
        b.bound("C behind and, or, not, (", "LAW 0: see 1 when ; = 1 at 11", "LAW 0: see 1 when and 1=1; = 1 at 11",
                "LAW 0: see 1 when or 1=1; = 1 at 11", "LAW 0: see 1 when 1=1 and; = 1 at 18",
                "LAW 0: see 1 when 1=1 or; = 1 at 17", "LAW 0: see 1 when 1=1 or and 1=1; = 1 at 18",
                "LAW 0: see 1 when not; = 1 at 14", "LAW 0: see 1 when (; = 1 at 12", "LAW 0: see 1 when (); = 1 at 12",
                "LAW 0: see 1 when 1=1 not 1=1; = 1 at 15", "LAW 0: see 1 when 1=1 (1=1); = 1 at 15");
        b.bound("( B ) is no E", "LAW 0: see 1 when (1)=1; = 1 at 13", "LAW 0: see 1 when (1=1)=1; = 1 at 16",
                "LAW 0: see 1 when (1=1)+1=1; = 1 at 16", "LAW 0: see 1 when (1+1)*2=4; = 1 at 15");
        b.bound("as many ) as (", "LAW 0: see 1 when (1=1; = 1 at 15", "LAW 0: see 1 when ((1=1); = 1 at 17",
                "LAW 0: see 1 when 1=1); = 1 at 14", "LAW 0: see 1 when (1=1)); = 1 at 16");
        b.bound("[when B]: once", "LAW 0: see 1 when 1=1 when 1=1; = 1 at 15", "LAW 0: see 1 when when; = 1 at 11");
        b.bound("a PLAN's words", "PLAN 0: ; = 1 at 0", "PLAN 0: 1; = 1 at 0", "PLAN 0: apart;; = 1 at 6",
                "PLAN 0: apart apart; = 1 at 6");
        b.bound("a PLAN's NUMBERS", "PLAN 0: against; = 1 at 7", "PLAN 0: stir; = 1 at 4", "PLAN 0: apart 0; = 1 at 6",
                "PLAN 0: beside 1; = 1 at 7", "PLAN 0: together 2; = 1 at 9", "PLAN 0: against 1 1; = 1 at 10",
                "PLAN 0: against -1; = 1 at 8", "PLAN 0: against 1+1; = 1 at 9", "PLAN 0: stir 0+1; = 1 at 6");
    }

    private static void theEnd() {
        b.bound("the end: the text's length", "LAW 0: s = 1 at 0", "LAW 0: see = 1 at 3", "LAW 0: see 1 = 1 at 5",
                "LAW 0: see 1; add = 1 at 10", "LAW 0: see 1+ = 1 at 6", "LAW 0: see 1/ = 1 at 6",
                "LAW 0: see 1 when = 1 at 10", "LAW 0: see 1 when not = 1 at 14", "LAW 0: see 1 when ( = 1 at 12",
                "LAW 0: see 1 when 1 = 1 at 12", "LAW 0: see 1 when 1= = 1 at 13", "LAW 0: see 1 when 1=1 = 1 at 14",
                "LAW 0: see 1 when (1=1 = 1 at 15", "LAW 0: see 1 when 1=1 or = 1 at 17");
        b.bound("the end of a PLAN: the text's length", "PLAN 0: apart = 1 at 5", "PLAN 0: against = 1 at 7",
                "PLAN 0: against 9 = 1 at 9", "PLAN 0: stir = 1 at 4", "PLAN 0: beside;stir 1 = 1 at 13");
        b.bound("the end: blanks are of the text", "LAW 0: see 1 \n  = 1 at 8", "PLAN 0: stir   = 1 at 6",
                "LAW 0: see" + "\n".repeat(497) + " = 1 at 500");
    }

    private static void tooGreat() {
        b.bound("(at the NUMBER) a part by 0", "LAW 0: see 1/0; = 2 at 6", "LAW 0: see 1/ 0; = 2 at 7",
                "LAW 0: see 0/0; = 2 at 6", "LAW 0: see 1*2/3/0; = 2 at 10", "LAW 0: see 1 when 1=2/0; = 2 at 15",
                "LAW 0: see 1/1; = 1");
        b.bound("a part by 0 of more digits", "LAW 0: see 1/00; = 2 at 6", "LAW 0: see 1/0000; = 2 at 6",
                "LAW 0: see 1/00000; = 1 at 6", "LAW 0: see 1/0001; = 1");
        b.bound("a part by 0 at the text's end", "LAW 0: see 1/0 = 2 at 6");
        b.bound("0 elsewhere is none", "LAW 0: see 0; = 1", "LAW 0: see 1*0; = 1", "LAW 0: see 1-0+0 when 0=0; = 1");
        b.bound("a prize above 9", "PLAN 0: against 9; = 1", "PLAN 0: against 10; = 2 at 8",
                "PLAN 0: against 9999; = 2 at 8", "PLAN 0: against 0009; = 1", "PLAN 0: against 0010; = 2 at 8",
                "PLAN 0: against 10000; = 1 at 8", "PLAN 0: against 0; = 1");
        b.bound("a LOT above 1", "PLAN 0: stir 0; = 1", "PLAN 0: stir 1; = 1", "PLAN 0: stir 2; = 2 at 5",
                "PLAN 0: stir 9999; = 2 at 5", "PLAN 0: stir 0001; = 1", "PLAN 0: stir 0002; = 2 at 5",
                "PLAN 0: stir 00001; = 1 at 5");
        b.bound("a prize above 9 at the text's end", "PLAN 0: against 10 = 2 at 8", "PLAN 0: stir 2 = 2 at 5");
    }

    private static void lines() {
        b.bound("how many lines: one", "LAW 0: see 1; = 1", "PLAN 0: stir 1; = 1");
        b.bound("16 lines of a LAW", "BOYS 00 00",
                "LAW 0: " + "see 1 when 1=2;".repeat(15) + "see 5+2*3 when 1=1; = 16", "beans(0, 1, 0) = 11");
        b.bound("(at its KEYWORD) the 17th line of a LAW", "LAW 0: " + "see 1;".repeat(17) + " = 3 at 96",
                "LAW 0: " + "see 1;".repeat(16) + "  name = 3 at 98");
        b.bound("the 17th line is no FAULT when there is none", "LAW 0: " + "see 1;".repeat(16) + " \n = 16");
        b.bound("24 lines of a PLAN", "PLAN 0: " + "apart;".repeat(24) + " = 24", "plan(0) = 24", "look(2) = 24");
        b.bound("24 lines of a PLAN, stir among them", "PLAN 0: " + "stir 1;apart;".repeat(12) + " = 24",
                "plan(0) = 12", "lot(1, 8) = 12");
        b.bound("24 lines of stir", "PLAN 0: " + "stir 1;".repeat(24) + " = 24", "plan(0) = 0");
        b.bound("(at its KEYWORD) the 25th of a PLAN", "PLAN 0: " + "apart;".repeat(25) + " = 3 at 144",
                "PLAN 0: " + "stir 0;".repeat(24) + "\nbeside = 3 at 169");
        b.bound("lines are counted anew for each TEXT", "2 x LAW 0: " + "see 1;".repeat(16), "LAW 0: see 1; = 1",
                "2 x PLAN 0: " + "apart;".repeat(24), "PLAN 0: apart; = 1", "plan(0) = 1");
    }

    private static void open() {
        String when = "LAW 0: see 1 when ";
        b.bound("8 ( that are open", "BOYS 00 00", when + "((((((((1=1)))))))); = 1", "beans(0, 1, 0) = 1");
        b.bound("(at it) the 9th ( that is open", when + "(((((((((1=1))))))))); = 3 at 19",
                when + "( ( ( ( ( ( ( ( ( = 3 at 27");
        b.bound("8 not that are open", "BOYS 00 00", when + "not ".repeat(8) + "1=1; = 1", "beans(0, 1, 0) = 1");
        b.bound("(at it) the 9th not that is open", when + "not ".repeat(9) + "1=1; = 3 at 43");
        b.bound("( and not, 8 together", "BOYS 00 00", when + "not(".repeat(4) + "1=1)))); = 1", "beans(0, 1, 0) = 1",
                when + "not not not not((((1=2)))); = 1", "beans(0, 1, 0) = 0");
        b.bound("( and not, the 9th of them", when + "not(".repeat(4) + "(1=1))))); = 3 at 27",
                when + "not(".repeat(4) + "not 1=1)))); = 3 at 27");
        b.bound("one that is closed is not open", when + "(1=1) and ".repeat(15) + "(1=1); = 1",
                when + "not 1=1 or ".repeat(15) + "not 1=1; = 1", when + "(((((((1=1 and (1=1) and (1=1)))))))); = 1",
                when + "(((((((not 1=1 and not 1=1 or (1=1)))))))); = 1");
        b.bound("behind a not the C alone is its own",
                when + "not 1=1 and " + "(".repeat(8) + "1=1" + ")".repeat(8) + "; = 1",
                when + "not (1=1) and " + "(".repeat(8) + "1=1" + ")".repeat(8) + "; = 1");
        b.bound("the 9th behind others that stand in the 8th", when + "((((((((1=1 and not 1=1)))))))); = 3 at 27",
                when + "((((((((1=1 or (1=1))))))))); = 3 at 26");
        b.bound("lines are counted anew", when + "((((((((1=1))))))));see 2 when ((((((((1=1)))))))); = 2");
    }

    private static void firstFault() {
        b.bound("the first by its place", "LAW 0: see ;see 1/0; = 1 at 4", "LAW 0: see 1/0;see ; = 2 at 6",
                "LAW 0: see 1/0 see = 2 at 6", "PLAN 0: against 10;stir 2; = 2 at 8",
                "PLAN 0: stir;against 10; = 1 at 4");
        b.bound("the first by its place: a line ahead of the 17th",
                "LAW 0: " + "see 1;".repeat(15) + "see 1/0;see 1; = 2 at 96",
                "LAW 0: " + "see 1;".repeat(16) + "see 1/0; = 3 at 96",
                "LAW 0: see;" + "see 1;".repeat(16) + " = 1 at 3");
        b.bound("the first by its place: ahead of the 9th that is open", "LAW 0: see when (((((((((1=1; = 1 at 4",
                "LAW 0: see 1 when (((((((((1/0=1; = 3 at 19", "LAW 0: see 1/0 when (((((((((1=1; = 2 at 6");
        b.bound("at one place the least: what can't stand there as the 17th line",
                "LAW 0: " + "see 1;".repeat(16) + "apart; = 1 at 96", "LAW 0: " + "see 1;".repeat(16) + "; = 1 at 96",
                "LAW 0: " + "see 1;".repeat(16) + "seen 1; = 1 at 96",
                "PLAN 0: " + "apart;".repeat(24) + "add; = 1 at 144",
                "PLAN 0: " + "apart;".repeat(24) + "1; = 1 at 144");
        b.bound("at one place the least: a ( that can't stand there as the 9th",
                "LAW 0: see 1 when ((((((((1=( = 1 at 21", "LAW 0: see 1 when ((((((((1( = 1 at 20",
                "LAW 0: see 1 when ((((((((; = 1 at 19", "LAW 0: see 1 when ((((((((1=not = 1 at 21");
    }

    private static void tokens() {
        b.bound("letters as many as stand together", "LAW 0: see1;see 2;see\nday;see like; = 4",
                "LAW 0: seeday; = 1 at 0", "LAW 0: see dayday; = 1 at 4", "LAW 0: see da; = 1 at 4",
                "LAW 0: se e 1; = 1 at 0", "LAW 0: see 1 when1=1and 1=1; = 1", "LAW 0: see 1 whenday=1; = 1 at 6");
        b.bound("capitals, too: A, Z, a, z", "LAW 0: see dayA; = 1 at 4", "LAW 0: see dayZ; = 1 at 4",
                "LAW 0: see daya; = 1 at 4", "LAW 0: see dayz; = 1 at 4", "LAW 0: see 1A; = 1 at 5");
        b.bound("capitals, too", "LAW 0: See 1; = 1 at 0", "LAW 0: SEE 1; = 1 at 0", "LAW 0: see dayZ; = 1 at 4",
                "LAW 0: see Aday; = 1 at 4", "LAW 0: see daz; = 1 at 4", "PLAN 0: aparT; = 1 at 0");
        b.bound("signs beside the letters are none", "LAW 0: see day@; = 1 at 7", "LAW 0: see day[; = 1 at 7",
                "LAW 0: see day`; = 1 at 7", "LAW 0: see day{; = 1 at 7", "LAW 0: see day_; = 1 at 7");
        b.bound("NUMBERS of 1 to 4 digits", "BOYS 00 00", "LAW 0: see 9; = 1", "LAW 0: see 9999; = 1",
                "beans(0, 1, 0) = 9999", "LAW 0: see 0007; = 1", "beans(0, 1, 0) = 7", "LAW 0: see 0000; = 1",
                "beans(0, 1, 0) = 0");
        b.bound("or none: 5 digits", "LAW 0: see 10000; = 1 at 4", "LAW 0: see 00000; = 1 at 4",
                "LAW 0: see 1+99999; = 1 at 6", "LAW 0: see " + "1".repeat(400) + "; = 1 at 4");
        b.bound("digits beside no digits", "LAW 0: see 1 1; = 1 at 6", "LAW 0: see 1:; = 1 at 5",
                "LAW 0: see 1.5; = 1 at 5", "LAW 0: see 5day; = 1 at 5");
        b.bound("; + - * / ( ) < = >", "LAW 0: see 1+2-3*4/5 when(1<2)and 1=1 or 2>1; = 1", "LAW 0: see 1,; = 1 at 5",
                "LAW 0: see 1.; = 1 at 5", "LAW 0: see 1:; = 1 at 5", "LAW 0: see 1?; = 1 at 5",
                "LAW 0: see 1'; = 1 at 5", "LAW 0: see 1%2; = 1 at 5", "LAW 0: see #; = 1 at 4",
                "LAW 0: see 1!; = 1 at 5");
        b.bound("Blanks (32, 10) between", "LAW 0: \n see \n 1 \n ; \n = 1", "LAW 0: see\t1; = 1 at 3",
                "LAW 0: see 1;\r = 1 at 6", "LAW 0: see 1;" + (char) 11 + " = 1 at 6",
                "LAW 0: " + (char) 9 + "see 1; = 1 at 0", "LAW 0: see 1;" + (char) 31 + " = 1 at 6",
                "LAW 0: see 1;" + (char) 33 + " = 1 at 6");
        b.bound("bytes 0, 127, 128, 160, 255 are none", "LAW 0: see 1;" + (char) 0 + " = 1 at 6",
                "LAW 0: see 1;" + (char) 127 + " = 1 at 6", "LAW 0: see 1;" + (char) 128 + " = 1 at 6",
                "PLAN 0: apart;" + (char) 160 + " = 1 at 6", "PLAN 0: apart" + (char) 255 + "; = 1 at 5",
                "LAW 0: see 1;" + (char) ('a' + 128) + " = 1 at 6");
    }

    /** BOY 0 sees 900 BEANS and what E comes to; his LIKE for BOY 1 is -7, and 1's for him -1. */
    private static void sees(String words, String... both) {
        String[] run = new String[3 + both.length];
        run[0] = "BOYS 00 00";
        run[1] = "like(0, 1, -7)";
        run[2] = "like(1, 0, -1)";
        for (int k = 0; k < both.length; k += 2) {
            run[3 + k] = "LAW 0: see " + both[k] + ";";
            run[4 + k] = "beans(0, 1, 900) = " + both[k + 1];
        }
        b.bound(words, run);
    }

    private static void sums() {
        sees("Ints, which wrap: +", "1 when " + Checks.MOST + "+1<0", "901", "1 when " + Checks.MOST + ">0", "901",
                "1 when " + Checks.MOST + "+1=" + Checks.LEAST, "901");
        sees("Ints, which wrap: -", "1 when " + Checks.LEAST + "-1>0", "901", "1 when " + Checks.LEAST + "<0", "901",
                "1 when " + Checks.LEAST + "-1=" + Checks.MOST, "901");
        sees("Ints, which wrap: *", "1 when 4096*4096*128<0", "901", "1 when 4096*4096*256=0", "901",
                "1 when 9999*9999*9999<0", "901", "1 when like*4096*4096*128=0-4096*4096*128", "901");
        sees("/ goes towards 0", "like/2", "897", "like/7", "899", "like/8", "900", "back/2", "900", "7/2", "903",
                "9/10", "900", "like/9999", "900");
        sees("/ of the least int", "1 when 4096*4096*128/1=" + Checks.LEAST, "901",
                "1 when 4096*4096*128/2=0-4096*4096*64", "901", "1 when 4096*4096*128/9999=0-21*9999-4790", "901",
                "1 when 4096*4096*128/9999/9999/9999=0", "901");
        sees("* and / from the left, ahead of + and -", "7/2*2", "906", "7*2/4", "903", "1-2-3", "896", "1-2*3+4",
                "899", "8/2/2", "902", "10-6/3", "908");
    }

    private static void claims() {
        sees("< = >", "1 when 1<2", "901", "1 when 2<2", "900", "1 when 2=2", "901", "1 when 2=3", "900", "1 when 3>2",
                "901", "1 when 2>2", "900", "1 when 0-1<0", "901", "1 when " + Checks.LEAST + "<" + Checks.MOST, "901",
                "1 when " + Checks.MOST + ">" + Checks.LEAST, "901", "1 when " + Checks.MOST + "<" + Checks.LEAST,
                "900");
        sees("and ahead of or", "1 when 1=1 or 1=1 and 1=2", "901", "1 when 1=2 and 1=1 or 1=1", "901",
                "1 when (1=1 or 1=1) and 1=2", "900", "1 when 1=2 or 1=2", "900", "1 when 1=1 and 1=1", "901");
        sees("< = > beside and, or, not", "1 when 1<2 and 1=1", "901", "1 when 2>1 and 1=1", "901",
                "1 when 1<2 and 2>1 and 3=3", "901", "1 when not 1<2", "900", "1 when not 2>1", "900", "1 when not 2<1",
                "901", "1 when 1<2 or 1=2", "901");
        sees("( B ) behind another C", "1 when 1=1 and (1=2)", "900", "1 when 1=1 and (1=2 or 1=3)", "900",
                "1 when 1=2 or (1=1 and 1=2)", "900", "1 when 1=2 or (1=2 or 1=1)", "901",
                "1 when 1=1 and (1=2 or (1=1 and (2=2)))", "901");
        sees("not of its C alone", "1 when not 1=2 and 1=2", "900", "1 when not (1=2 and 1=2)", "901",
                "1 when not 1=1 or 1=1", "901", "1 when not not 1=1", "901", "1 when not not not 1=1", "900");
    }

    private static void told() {
        sees("E of its first line that HOLDS", "1;see 2", "901", "1 when 1=2;see 2;see 3", "902",
                "1 when 1=2;see 2 when 1=1;see 3", "902");
        sees("0 without one", "1 when 1=2", "900", "1 when 1=2;see 2 when 2=3", "900", "1 when 1=2;add 5", "900");
        sees("a line that HOLDS and TELLS 0 is the first one", "0;see 5", "900", "0 when 1=1;see 5", "900");
    }
}
