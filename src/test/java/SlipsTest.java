/** Promises 13, 16, 17: of, beans, seen, and who stays LOYAL. */
public final class SlipsTest {
    private static final int NONE = TwoCamps.NONE;
    private static final Checks c = new Checks();

    public static void main(String[] args) {
        wrongAsks();
        friends();
        slipLines();
        lastDay();
        gone();
        loyal();
        loyalByTheDay();
        beans();
        seen();
        c.end("SlipsTest");
    }

    /** BOYS 0, 1, 2 of LOT 0, 3, 4, 5 of LOT 1; STRENGTHS are their numbers. */
    private static TwoCamps six() {
        TwoCamps x = new TwoCamps();
        for (int i = 0; i < 6; i++) {
            x.boy(i / 3, i);
        }
        return x;
    }

    private static void wrongAsks() {
        TwoCamps x = six();
        int[] whats = {-1, 12, 99, 100, 106, 124, Integer.MAX_VALUE, Integer.MIN_VALUE};
        for (int what : whats) {
            c.due("of(0, " + what + ")", x.of(0, what), -100);
        }
        c.due("of(6, 0)", x.of(6, 0), -100);
        c.due("of(-1, 0)", x.of(-1, 0), -100);
        c.due("of(24, 3)", x.of(24, 3), -100);
        c.due("of(5, 0)", x.of(5, 0), 1);
        c.due("of(5, 1)", x.of(5, 1), 5);
        c.due("of(5, 2)", x.of(5, 2), 1);
        x.like(5, 0, -3);
        x.like(5, 3, 4);
        x.like(0, 5, 7);
        x.like(4, 5, -1);
        c.due("own goes down", x.of(5, 9), -1);
        c.due("across", x.of(5, 10), 2);
        c.due("like", x.of(5, 11), 2);
        c.due("of(5, 100)", x.of(5, 100), -3);
        c.due("of(5, 103)", x.of(5, 103), 4);
    }

    private static void three(String call, TwoCamps x, int boy, int first, int second, int third) {
        c.due(call + ": first", x.of(boy, 3), first);
        c.due(call + ": second", x.of(boy, 4), second);
        c.due(call + ": third", x.of(boy, 5), third);
    }

    private static void friends() {
        TwoCamps x = six();
        three("all alike", x, 0, 1, 2, 3);
        three("all alike", x, 2, 0, 1, 3);
        c.due("friends across", x.of(0, 6), 1);
        c.due("who has 0", x.of(0, 8), 5);
        c.due("who has 3", x.of(3, 8), 3);
        c.due("who has 4", x.of(4, 8), 0);
        x.like(0, 5, 2);
        x.like(0, 4, 2);
        x.like(0, 1, -1);
        three("by their likes", x, 0, 4, 5, 2);
        c.due("friends across", x.of(0, 6), 2);
        c.due("of lot 0", x.lot(0, 7), 4);
        c.due("of lot 1", x.lot(1, 7), 9);
        x.like(0, 3, 50);
        three("the greatest first", x, 0, 3, 4, 5);
        TwoCamps y = new TwoCamps();
        y.boy(0, 0);
        three("one alone", y, 0, NONE, NONE, NONE);
        c.due("none across", y.of(0, 6), 0);
        c.due("who has him", y.of(0, 8), 0);
        y.boy(1, 0);
        three("two", y, 0, 1, NONE, NONE);
        c.due("across", y.of(0, 6), 1);
        c.due("who has him", y.of(0, 8), 1);
    }

    private static void slipLines() {
        TwoCamps x = six();
        Checks.law(x, 0, "slip strong;");
        three("by strength", x, 0, 5, 4, 3);
        three("by strength", x, 5, 4, 3, 2);
        Checks.law(x, 0, "slip 0-5 when same=1;");
        x.like(0, 4, -6);
        x.like(0, 5, -5);
        three("like where none holds", x, 0, 3, 1, 2);
        Checks.law(x, 0, "slip " + Checks.LEAST + " when strong=1;slip " + Checks.MOST + " when strong=2;");
        three("far apart", x, 0, 2, 3, 5);
        Checks.law(x, 1, "slip 0-like;");
        x.force(1);
        three("by the law in force", x, 0, 4, 5, 1);
    }

    /** What a slip may ask of the DAY is of the last one, 0 ahead of the first. */
    private static void lastDay() {
        TwoCamps x = six();
        Checks.law(x, 0, "see 1000*kind+100*prize+10*day+won*5+lost*3+wronged;"
                + "slip 1 when kind=1 and prize=4 and day=1 and lost=1 and wronged=1 and strong=5;slip 0;");
        c.due("ahead of the first", x.beans(0, 1, 0), 0);
        three("ahead of the first", x, 0, 1, 2, 3);
        x.day(2, 0, 1);
        c.due("behind the first", x.beans(0, 1, 0), 2000);
        c.due("wronged 1", x.beans(3, 1, 0), 2001);
        x.day(1, 4, 0);
        c.due("0 lost and was wronged", x.beans(0, 1, 0), 1414);
        c.due("3 won", x.beans(3, 1, 0), 1415);
        three("the slip", x, 0, 5, 1, 2);
        three("of the other lot", x, 3, 0, 1, 2);
        x.day(0, 0, NONE);
        c.due("behind a day apart", x.beans(0, 1, 0), 20);
        x.state(1196435762);
        x.like(0, 1, 50);
        x.like(0, 2, 50);
        x.like(1, 0, 50);
        x.like(1, 2, 50);
        x.like(2, 0, 50);
        x.like(2, 1, 50);
        x.day(1, 0, NONE);
        c.due("3 + 10 + 4 and 12 + 7: 3 won", x.beans(3, 1, 0), 1035);
    }

    private static void gone() {
        TwoCamps x = six();
        Checks.law(x, 0, "home 1 when strong=1 and day=0;home 1 when strong=5 and day=0;");
        x.like(0, 1, 9);
        x.like(2, 1, 4);
        x.like(3, 1, -5);
        x.like(1, 2, 6);
        three("before", x, 0, 1, 2, 3);
        x.day(0, 0, NONE);
        three("without those who are gone", x, 0, 2, 3, 4);
        three("one who is gone has none", x, 1, NONE, NONE, NONE);
        c.due("none across", x.of(1, 6), 0);
        c.due("nobody has him", x.of(1, 8), 0);
        c.due("not there", x.of(1, 2), 0);
        c.due("own as if he were there", x.of(1, 9), 6);
        c.due("across as if he were there", x.of(1, 10), -3);
        c.due("like as if he were there", x.of(1, 11), 3);
        c.due("beans with one who is gone", x.beans(0, 1, 5), NONE);
        c.due("beans of one who is gone", x.beans(1, 0, 5), NONE);
        c.due("friends across of lot 0", x.lot(0, 7), 4);
        c.due("loyal stays", x.of(1, 7), 1);
    }

    private static void loyal() {
        TwoCamps x = six();
        c.due("all at first", x.look(6), 6);
        Checks.law(x, 0, "slip same*10 when strong<5;slip strong;");
        x.day(0, 0, NONE);
        for (int i = 0; i < 6; i++) {
            c.due("one friend across is enough for " + i, x.of(i, 7), 1);
        }
        x.like(0, 4, -50);
        TwoCamps y = six();
        y.boy(0, 6);
        Checks.law(y, 0, "slip same;");
        y.day(0, 0, NONE);
        for (int i = 0; i < 7; i++) {
            c.due("three of his own for " + i, y.of(i, 7), i >= 3 && i <= 5 ? 1 : 0);
        }
        c.due("loyal ones", y.look(6), 3);
        Checks.law(y, 0, "slip 0-same;");
        y.day(0, 0, NONE);
        c.due("not again, once lost", y.look(6), 3);
        c.due("though friends are across", y.of(0, 6), 3);
        Checks.law(y, 0, "home 1;");
        y.day(0, 0, NONE);
        c.due("those who are gone stay so", y.look(6), 3);
        TwoCamps z = new TwoCamps();
        z.boy(0, 1);
        z.boy(1, 2);
        Checks.law(z, 0, "home 1 when strong=2;");
        z.day(0, 0, NONE);
        c.due("one alone is not", z.of(0, 7), 0);
        c.due("who is gone is", z.of(1, 7), 1);
    }

    /** LOYAL goes by the slips of that DAY itself, behind the change of its LIKES. */
    private static void loyalByTheDay() {
        TwoCamps x = six();
        x.boy(0, 6);
        x.boy(1, 7);
        Checks.law(x, 0, "slip same when kind=2 and day=0 and wronged=1;slip 0-same;");
        x.day(2, 0, 0);
        c.due("those of the lot that was wronged are not", x.look(6), 4);
        c.due("0", x.of(0, 7), 0);
        c.due("3", x.of(3, 7), 1);
        TwoCamps y = six();
        y.boy(0, 6);
        y.boy(1, 7);
        Checks.law(y, 0, "add same;");
        y.day(0, 0, NONE);
        c.due("none is", y.look(6), 0);
        TwoCamps z = six();
        z.boy(0, 6);
        z.boy(1, 7);
        Checks.law(z, 1, "slip same;");
        c.due("a thought", z.led(0, 1, true, 0), 0);
        z.force(1);
        Checks.plan(z, 0, "apart;");
        c.due("a plan in thought", z.led(0, 1, true, 6), 1);
        c.due("does not settle it", z.look(6), 8);
        z.plan(0);
        c.due("a plan that is done does", z.look(6), 0);
    }

    private static void beans() {
        TwoCamps x = six();
        Checks.law(x, 0, "see like;");
        x.like(0, 1, 7);
        x.like(1, 0, -7);
        c.due("more", x.beans(0, 1, 20), 27);
        c.due("less", x.beans(1, 0, 20), 13);
        c.due("none", x.beans(1, 0, 5), 0);
        c.due("of 0", x.beans(0, 1, 0), 7);
        c.due("of 999", x.beans(0, 1, 999), 1006);
        c.due("of 1000", x.beans(0, 1, 1000), NONE);
        c.due("of -1", x.beans(0, 1, -1), NONE);
        c.due("himself", x.beans(0, 0, 1), NONE);
        c.due("nobody", x.beans(0, 6, 1), NONE);
        c.due("by nobody", x.beans(-1, 0, 1), NONE);
        Checks.law(x, 0, "see 9999;");
        c.due("9999", x.beans(0, 1, 0), 9999);
        c.due("held to 9999", x.beans(0, 1, 999), 9999);
        Checks.law(x, 0, "see " + Checks.MOST + ";");
        c.due("added wholly", x.beans(0, 1, 999), 9999);
        Checks.law(x, 0, "see own+across+size;");
        c.due("the others are 0", x.beans(0, 1, 3), 3);
    }

    private static void seen() {
        TwoCamps x = six();
        Checks.law(x, 0, "see like;");
        x.like(0, 1, 7);
        x.like(4, 5, 8);
        x.like(0, 3, -30);
        x.like(5, 1, -1);
        c.due("own: 20 and 15 of 12", x.seen(20, 0), 21);
        c.due("across: 20, less 20 and 1 of 18", x.seen(20, 1), 18);
        c.due("less", x.seen(20, 2), 3);
        c.due("seen(0, 0)", x.seen(0, 0), 1);
        c.due("seen(0, 1)", x.seen(0, 1), 0);
        c.due("seen(999, 1)", x.seen(999, 1), 997);
        c.due("seen(1000, 0)", x.seen(1000, 0), -10000);
        c.due("seen(-1, 1)", x.seen(-1, 1), -10000);
        c.due("seen(5, -1)", x.seen(5, -1), -10000);
        c.due("seen(5, 3)", x.seen(5, 3), -10000);
        Checks.law(x, 0, "see 30 when same=0;see like;home 1 when strong>2;");
        c.due("seen(9, 2)", x.seen(9, 2), 10 - 39);
        x.day(0, 0, NONE);
        c.due("own of those there", x.seen(20, 0), 21);
        c.due("nobody across", x.seen(20, 1), 0);
        c.due("less 0", x.seen(20, 2), 21);
    }
}
