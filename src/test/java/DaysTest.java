/** Promises 10 to 12, 14, 15: force, day, plan, lot, kept, and how a DAY goes by. */
public final class DaysTest {
    private static final int NONE = TwoCamps.NONE;
    private static final Checks c = new Checks();

    public static void main(String[] args) {
        force();
        wrongDays();
        scores();
        likes();
        fights();
        home();
        names();
        facts();
        lotFacts();
        plan();
        sixtyDays();
        keptDays();
        wrongLots();
        c.end("DaysTest");
    }

    private static void force() {
        TwoCamps x = Checks.four();
        Checks.law(x, 3, "add 4;");
        c.due("force(3)", x.force(3), 0);
        c.due("force(4)", x.force(4), NONE);
        c.due("force(-1)", x.force(-1), NONE);
        c.due("look(4)", x.look(4), 3);
        x.day(0, 0, NONE);
        c.due("by law 3", x.of(0, 101), 4);
        c.due("force(1)", x.force(1), 3);
        x.day(0, 0, NONE);
        c.due("by law 1", x.of(0, 101), 4);
    }

    private static void wrongDays() {
        TwoCamps x = Checks.four();
        int[][] wrong = {{-1, 0, -1}, {4, 0, -1}, {0, 1, -1}, {2, 9, -1}, {3, -1, -1}, {1, -1, -1}, {1, 10, -1},
            {0, 0, 2}, {1, 3, -2}, {Integer.MIN_VALUE, 0, 0}, {1, 0, Integer.MAX_VALUE}};
        for (int[] d : wrong) {
            c.due("day(" + d[0] + ", " + d[1] + ", " + d[2] + ")", x.day(d[0], d[1], d[2]), NONE);
        }
        c.due("nothing was done", x.look(2), 0);
        c.due("nor drawn", x.state(0), 0);
        c.due("day(1, 9, 1)", x.day(1, 9, 1), 0);
        c.due("day(1, 0, 0)", x.day(1, 0, 0), 0);
        c.due("day(3, 0, -1)", x.day(3, 0, NONE), 0);
        c.due("look(2)", x.look(2), 3);
    }

    /** From STATE 0 the DRAWS of 10 are 3, 7; 4, 7; 8, 8. */
    private static void scores() {
        c.due("3 + 0 against 0 + 7", winner(0, 3, 0, 0), 1);
        c.due("4 + 3 against 0 + 7", winner(0, 4, 0, 0), NONE);
        c.due("5 + 3 against 0 + 7", winner(0, 5, 0, 0), 0);
        c.due("own 5 counts 1: 3 + 1 + 3 against 7", winner(0, 3, 5, 0), NONE);
        c.due("own 9 counts 1", winner(0, 3, 9, 0), NONE);
        c.due("own 10 counts 2", winner(0, 3, 10, 0), 0);
        c.due("own -1 counts -1: 4 - 1 + 3 against 7", winner(0, 4, -1, 0), 1);
        c.due("own -5 counts -1: 5 - 1 + 3 against 7", winner(0, 5, -5, 0), NONE);
        c.due("own of LOT 1: 5 + 3 against 1 + 7", winner(0, 5, 0, 5), NONE);
        c.due("a later STATE: 3 + 4 against 7", winner(1196435762, 3, 0, 0), NONE);
        TwoCamps x = Checks.four();
        x.state((int) 2868466484L);
        x.day(1, 0, NONE);
        c.due("8 + 3 against 8 + 7", x.kept(1, 4), 1);
        TwoCamps y = new TwoCamps();
        y.day(1, 0, NONE);
        c.due("with nobody, 3 against 7", y.kept(1, 4), 1);
        c.due("with nobody, 4 against 7", y.day(1, 0, NONE), 0);
        c.due("days won", y.lot(1, 6), 2);
        c.due("days won by the other", y.lot(0, 6), 0);
        TwoCamps w = new TwoCamps();
        w.boy(0, 9);
        w.boy(1, 0);
        Checks.law(w, 0, "fight lost;home lost;");
        c.due("LOT 1 lost", w.day(1, 0, NONE), 1);
        c.due("it fights", w.kept(1, 5), 2);
        c.due("its boy is gone", w.of(1, 2), 0);
        c.due("the other is not", w.of(0, 2), 1);
        TwoCamps z = new TwoCamps();
        z.boy(0, 9);
        Checks.law(z, 0, "home 1 when day=0;");
        z.day(0, 0, NONE);
        z.day(1, 0, NONE);
        c.due("the strength of one who is gone does not count", z.kept(2, 4), 1);
    }

    /** LOT 0 has two BOYS with so much STRENGTH together, and such an own; LOT 1 none, and such an own. */
    private static int winner(int state, int strength, int own, int otherOwn) {
        TwoCamps x = new TwoCamps();
        x.boy(0, strength);
        x.boy(0, 0);
        x.boy(1, 0);
        x.boy(1, 0);
        x.like(0, 1, own);
        x.like(1, 0, own);
        x.like(2, 3, otherOwn);
        x.like(3, 2, otherOwn);
        x.state(state);
        x.day(1, 5, NONE);
        return x.kept(1, 4);
    }

    private static void likes() {
        TwoCamps x = Checks.four();
        x.like(0, 1, 40);
        x.like(1, 0, -40);
        x.like(2, 3, 10);
        x.like(3, 2, 3);
        Checks.law(x, 0, "add 11 when like>39;add 0-11 when like<0-39;add back when same=1;");
        x.day(2, 0, NONE);
        c.due("held at 50", x.of(0, 101), 50);
        c.due("held at -50", x.of(1, 100), -50);
        c.due("asked ahead of any change, 2 for 3", x.of(2, 103), 13);
        c.due("asked ahead of any change, 3 for 2", x.of(3, 102), 13);
        c.due("none TELLS", x.of(0, 102), 0);
        TwoCamps y = Checks.four();
        y.like(0, 1, 50);
        y.like(1, 0, -50);
        Checks.law(y, 0, "add " + Checks.MOST + " when like>0;add " + Checks.LEAST + " when like<0;");
        y.day(2, 0, NONE);
        c.due("added wholly", y.of(0, 101), 50);
        c.due("taken wholly", y.of(1, 100), -50);
    }

    private static void fights() {
        TwoCamps x = Checks.four();
        x.like(0, 2, -3);
        x.like(2, 0, -9);
        x.like(0, 1, 7);
        Checks.law(x, 0, "fight 0-across;");
        c.due("both fight", x.day(2, 0, NONE), 2);
        c.due("the set", x.kept(1, 5), 3);
        c.due("heat of 0: a mean of -3/4 is -1", x.lot(0, 5), 1);
        c.due("heat of 1: a mean of -9/4 is -3", x.lot(1, 5), 3);
        Checks.law(x, 0, "fight own;");
        c.due("0 fights", x.day(2, 0, NONE), 1);
        c.due("the set", x.kept(2, 5), 1);
        c.due("heat of 0", x.lot(0, 5), 4);
        c.due("fought", x.lot(0, 4), 2);
        c.due("fought", x.lot(1, 4), 1);
        c.due("in all", x.look(5), 3);
        Checks.law(x, 0, "fight 1000 when own=0;fight 999;");
        c.due("both", x.day(2, 0, NONE), 2);
        c.due("999 at most", x.lot(1, 5), 1002);
        c.due("999 at most", x.lot(0, 5), 1003);
        Checks.law(x, 0, "fight own-3;fight 5;add 0-1 when same=1;");
        c.due("the likes of the day count: 0 is not above 0", x.day(2, 0, NONE), 0);
        c.due("none", x.kept(4, 5), 0);
        Checks.law(x, 0, "fight size-1 when won=0 and kind=2;");
        c.due("a lot's size", x.day(2, 0, NONE), 2);
        c.due("heat", x.lot(1, 5), 1003);
        Checks.law(x, 0, "fight strong+back+like+same+knew;");
        c.due("the others are 0", x.day(2, 0, NONE), 0);
    }

    private static void home() {
        TwoCamps x = Checks.four();
        x.like(1, 0, -8);
        x.like(2, 0, 3);
        x.like(3, 0, 4);
        x.like(0, 1, 6);
        Checks.law(x, 0, "home 1 when own=0-8 and across=3 and like=6 and strong=1 and size=2;"
                + "home 1 when size=1;home same+knew+back;");
        x.day(0, 0, NONE);
        c.due("0 is gone", x.of(0, 2), 0);
        c.due("1, asked ahead of that, is not", x.of(1, 2), 1);
        c.due("boys there", x.look(1), 3);
        c.due("kept", x.kept(1, 6), 3);
        c.due("of lot 0", x.lot(0, 0), 1);
        c.due("own of one who is gone", x.of(0, 9), -8);
        c.due("across of one who is gone", x.of(0, 10), 3);
        c.due("like of one who is gone", x.of(0, 11), 6);
        c.due("own of 1, without him", x.of(1, 9), 0);
        c.due("like of 1, without him", x.of(1, 11), 0);
        c.due("own of lot 0", x.lot(0, 1), 0);
        c.due("boys", x.look(0), 4);
        x.day(0, 0, NONE);
        c.due("1 is gone then", x.of(1, 2), 0);
        c.due("and 2, 3 are not", x.look(1), 2);
        x.like(2, 3, 5);
        x.like(0, 3, 50);
        Checks.law(x, 0, "home 1 when across>0;");
        x.day(0, 0, NONE);
        c.due("nobody of the other lot is there to like 3", x.look(1), 2);
        Checks.law(x, 0, "add 5;home 1 when own>4;home 0-1;");
        x.day(0, 0, NONE);
        c.due("the likes of the day count", x.look(1), 0);
        c.due("gone likes stay", x.of(0, 101), 6);
        TwoCamps y = Checks.four();
        y.like(0, 2, 3);
        Checks.law(y, 0, "home 1 when across=1;");
        y.day(0, 0, NONE);
        c.due("2 whom LOT 0 likes is gone", y.of(2, 2), 0);
        c.due("he alone", y.look(1), 3);
        c.due("nobody is there", x.day(1, 9, 1), 0);
    }

    private static void names() {
        TwoCamps x = Checks.four();
        Checks.law(x, 0, "name 1 when size=1;name 1 when own>4;add 5 when same=1 and strong>2;home 1 when day=1 and strong=1;");
        c.due("none yet", x.lot(1, 3), 0);
        x.day(0, 0, NONE);
        c.due("lot 1 by the likes of the day", x.lot(1, 3), 1);
        c.due("lot 0 has none", x.lot(0, 3), 0);
        x.day(0, 0, NONE);
        c.due("lot 0 as one is gone", x.lot(0, 3), 2);
        c.due("lot 1 keeps its day", x.lot(1, 3), 1);
        x.day(0, 0, NONE);
        c.due("lot 0 keeps its day", x.lot(0, 3), 2);
    }

    /** Each fact of a DAY and of a couple, by what is added. */
    private static void facts() {
        fact("kind", 3, 0, NONE, 0, 3);
        fact("prize", 1, 7, NONE, 0, 7);
        fact("day", 0, 0, NONE, 0, 0);
        fact("day", 0, 0, NONE, 2, 2);
        fact("same", 0, 0, NONE, 0, 0);
        fact("knew", 0, 0, NONE, 0, 1);
        fact("won", 1, 0, NONE, 0, 0);
        fact("lost", 1, 0, NONE, 0, 1);
        fact("won", 0, 0, NONE, 1, 0);
        fact("wronged", 0, 0, 0, 0, 1);
        fact("wronged", 0, 0, 1, 0, 0);
        fact("like", 0, 0, NONE, 0, 4);
        fact("back", 0, 0, NONE, 0, 9);
        fact("strong", 0, 0, NONE, 0, 8);
        fact("own", 0, 0, NONE, 0, 0);
        fact("across", 0, 0, NONE, 0, 0);
        fact("size", 0, 0, NONE, 0, 0);
    }

    /** What BOY 0 (LOT 0, LIKE 4 for BOY 1, whom he knew and who has STRENGTH 8 and LIKE 9 for him) is told of it. */
    private static void fact(String word, int kind, int prize, int wronged, int ahead, int want) {
        TwoCamps x = new TwoCamps();
        x.boy(0, 2);
        x.boy(1, 8);
        x.like(0, 1, 4);
        x.like(1, 0, 9);
        x.knew(0, 1, true);
        for (int d = 0; d < ahead; d++) {
            x.day(1, 3, 0);
        }
        Checks.law(x, 0, "add " + word + ";");
        x.day(kind, prize, wronged);
        c.due(word, x.of(0, 101), 4 + want);
    }

    /** Facts of a LOT and of a BOY on a DAY. */
    private static void lotFacts() {
        TwoCamps x = Checks.four();
        Checks.law(x, 0, "fight won*100+lost*10+wronged when kind=1;name lost;home won when strong=4;home wronged when strong=1;");
        c.due("day", x.day(1, 2, 0), 2);
        c.due("lot 1 won", x.kept(1, 4), 1);
        c.due("heat of the one who lost and was wronged", x.lot(0, 5), 11);
        c.due("heat of the one who won", x.lot(1, 5), 100);
        c.due("name of who lost", x.lot(0, 3), 1);
        c.due("no name of who won", x.lot(1, 3), 0);
        c.due("home of who won", x.of(3, 2), 0);
        c.due("home of who was wronged", x.of(0, 2), 0);
        c.due("the others are there", x.look(1), 2);
        c.due("wronged", x.lot(0, 8), 1);
        c.due("wronged", x.lot(1, 8), 0);
    }

    private static void plan() {
        TwoCamps x = Checks.four();
        Checks.plan(x, 2, "stir 0;stir 1;apart;against 4;stir 0;beside;together;stir 1;");
        Checks.law(x, 0, "add kind*10+prize when same=0;fight wronged*7;");
        c.due("plan(2)", x.plan(2), 4);
        c.due("plan(4)", x.plan(4), NONE);
        c.due("plan(-1)", x.plan(-1), NONE);
        c.due("plan(0)", x.plan(0), 0);
        c.due("days", x.look(2), 4);
        c.due("0 + 14 + 20 + 30, held", x.of(0, 102), 50);
        c.due("wronged 0", x.lot(0, 8), 1);
        c.due("wronged 1", x.lot(1, 8), 1);
        c.due("the last stir ahead of a day", x.kept(1, 5), 2);
        c.due("nobody on the second", x.kept(2, 5), 0);
        c.due("lot 0 on the third", x.kept(3, 5), 1);
        c.due("nobody on the fourth", x.kept(4, 5), 0);
        c.due("kinds", x.kept(1, 7) * 1000 + x.kept(2, 7) * 100 + x.kept(3, 7) * 10 + x.kept(4, 7), 123);
        c.due("a stir at the end is no stir of the next day", x.day(0, 0, NONE), 0);
        c.due("heat", x.lot(0, 5) * 10 + x.lot(1, 5), 77);
    }

    private static void sixtyDays() {
        TwoCamps x = Checks.four();
        Checks.plan(x, 0, "beside;".repeat(24));
        c.due("24", x.plan(0), 24);
        c.due("48", x.plan(0), 24);
        c.due("in thought it ends at 60, too", x.led(0, 0, true, 6), 12);
        c.due("60", x.plan(0), 12);
        c.due("days", x.look(2), 60);
        c.due("no more", x.plan(0), 0);
        c.due("no 61st", x.day(0, 0, NONE), NONE);
        c.due("nor in thought", x.led(0, 0, true, 6), 0);
        c.due("kept of the 60th", x.kept(60, 7), 2);
        c.due("kept of the 61st", x.kept(61, 7), -100);
        Checks.law(x, 1, "fight 1 when day=79 and kind=1;");
        c.due("more than 60 for the least", x.least(1, 0), 20);
        c.due("apart ahead of that", x.least(1, 9), 11);
        Checks.law(x, 2, "add 1 when day=70;");
        x.like(0, 2, -8);
        c.due("more than 60 for back", x.back(2), 11);
        Checks.law(x, 3, "add 9;");
        x.row(3);
        c.due("none in parts", x.parts(2, 3, 0), 0);
    }

    private static void keptDays() {
        TwoCamps x = Checks.four();
        x.like(0, 1, 5);
        x.like(1, 0, 8);
        x.like(2, 3, -5);
        x.like(0, 3, 7);
        x.like(3, 1, -1);
        Checks.law(x, 0, "add 1 when kind=0;fight 1 when own<0;home 1 when kind=3 and strong=4;");
        x.day(0, 0, NONE);
        x.day(1, 0, NONE);
        x.day(3, 0, NONE);
        int[][] want = {{7, -2, 2, 0, NONE, 2, 4, 0}, {7, -2, 2, 0, 1, 2, 4, 1}, {7, 0, 1, 1, NONE, 2, 3, 3}};
        for (int d = 0; d < 3; d++) {
            for (int what = 0; what < 8; what++) {
                c.due("kept(" + (d + 1) + ", " + what + ")", x.kept(d + 1, what), want[d][what]);
            }
        }
        c.due("kept(0, 0)", x.kept(0, 0), -100);
        c.due("kept(4, 0)", x.kept(4, 0), -100);
        c.due("kept(1, -1)", x.kept(1, -1), -100);
        c.due("kept(1, 8)", x.kept(1, 8), -100);
        c.due("kept(least, 0)", x.kept(Integer.MIN_VALUE, 0), -100);
        c.due("kept(most, most)", x.kept(Integer.MAX_VALUE, Integer.MAX_VALUE), -100);
        x.like(0, 1, -50);
        c.due("what is kept stays", x.kept(3, 0), 7);
    }

    private static void wrongLots() {
        TwoCamps x = Checks.four();
        c.due("lot(-1, 0)", x.lot(-1, 0), -100);
        c.due("lot(2, 0)", x.lot(2, 0), -100);
        c.due("lot(0, -1)", x.lot(0, -1), -100);
        c.due("lot(0, 9)", x.lot(0, 9), -100);
        c.due("lot(most, most)", x.lot(Integer.MAX_VALUE, Integer.MAX_VALUE), -100);
        x.like(2, 1, -1);
        c.due("across goes down", x.lot(1, 2), -1);
        c.due("across of 0", x.lot(0, 2), 0);
        c.due("own of 0", x.lot(0, 1), 0);
        c.due("cross of both", x.look(3), -1);
        x.like(0, 3, 9);
        c.due("cross: 8 of 8", x.look(3), 1);
        c.due("across: 9 of 4", x.lot(0, 2), 2);
    }
}
