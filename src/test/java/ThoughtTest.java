/** Promises 18 to 25: led, least, back, row, parts, told, off, fitting. */
public final class ThoughtTest {
    private static final int NONE = TwoCamps.NONE;
    private static final Checks c = new Checks();

    public static void main(String[] args) {
        led();
        ledWrong();
        nothingStays();
        least();
        back();
        row();
        parts();
        partsNearTheEnd();
        toldAndOff();
        fitting();
        c.end("ThoughtTest");
    }

    private static void ledAs(TwoCamps x, boolean stirred, int... want) {
        for (int what = 0; what < want.length; what++) {
            c.due("led(0, 1, " + stirred + ", " + what + ")", x.led(0, 1, stirred, what), want[what]);
        }
    }

    private static void led() {
        TwoCamps x = Checks.four();
        Checks.plan(x, 0, "apart;stir 1;beside;against 3;together;stir 0;");
        Checks.law(x, 1, "fight 1000 when wronged=1;fight 5 when prize=3;name 1 when kind=1 and won=1;"
                + "home 1 when kind=3 and strong=2;add 0-6 when kind=1 and same=0;add 1 when wronged=1 and same=0;");
        Checks.law(x, 0, "fight 7;name 1 when size=2 and won=0;");
        x.day(0, 0, NONE);
        c.due("a day with names and fights is gone by", x.lot(0, 5) + x.lot(1, 3), 8);
        // Across: 0, then 1 for LOT 1, then -6 and -5 after the day against.
        ledAs(x, true, 3, 999 + 10, -6, 1, 2, 0, 4);
        ledAs(x, false, 2, 10, -6, 1, 3, 0, 4);
        TwoCamps y = Checks.four();
        Checks.plan(y, 0, "against 0;against 0;against 0;");
        Checks.law(y, 1, "name won;fight 0-won;");
        ledAs(y, true, 0, 0, 0, 0, NONE, 1, 3);
        // From there the DRAWS are 8, 4: the first day is alike.
        y.state(1649599747);
        Checks.law(y, 1, "name won;fight lost;");
        ledAs(y, true, 2, 2, 0, 0, 2, 1, 3);
        TwoCamps z = Checks.four();
        ledAs(z, true, 0, 0, 0, 0, NONE, 0, 0);
        Checks.plan(z, 0, "apart;");
        Checks.law(z, 0, "name 1 when wronged=1;");
        Checks.law(z, 1, "name 1;");
        ledAs(z, true, 0, 0, 0, 0, NONE, 2, 1);
        z.day(0, 0, 0);
        ledAs(z, true, 0, 0, 0, 0, NONE, 1, 1);
        z.day(0, 0, 1);
        ledAs(z, true, 0, 0, 0, 0, NONE, 0, 1);
    }

    private static void ledWrong() {
        TwoCamps x = Checks.four();
        x.like(0, 2, 8);
        int[][] wrong = {{-1, 0, 0}, {4, 0, 0}, {0, -1, 0}, {0, 4, 0}, {0, 0, -1}, {0, 0, 7}, {0, 0, 100}};
        for (int[] w : wrong) {
            c.due("led(" + w[0] + ", " + w[1] + ", .., " + w[2] + ")", x.led(w[0], w[1], true, w[2]), -100);
        }
        c.due("the cross of no days", x.led(3, 3, false, 2), 1);
    }

    private static void nothingStays() {
        TwoCamps x = Checks.four();
        Checks.plan(x, 0, "against 5;stir 0;against 5;");
        Checks.law(x, 2, "add 5;fight 5;home 1 when day=1;name 1;slip same;see 5;");
        x.state(77);
        x.row(1);
        x.led(0, 2, true, 0);
        x.least(2, 3);
        x.back(2);
        x.parts(0, 2, 0);
        x.off(0, 2);
        x.fitting(0);
        int[] looks = {4, 4, 0, 0, 0, 0, 4, 1};
        for (int what = 0; what < 8; what++) {
            c.due("look(" + what + ")", x.look(what), looks[what]);
        }
        c.due("like", x.of(0, 101), 0);
        c.due("there", x.of(0, 2), 1);
        c.due("name", x.lot(0, 3), 0);
        c.due("heat", x.lot(0, 5), 0);
        c.due("won", x.lot(0, 6) + x.lot(1, 6), 0);
        c.due("wronged", x.lot(0, 8), 0);
        c.due("kept", x.kept(1, 0), -100);
        c.due("beans", x.beans(0, 1, 1), 1);
        c.due("state", x.state(0), 77);
    }

    private static void least() {
        TwoCamps x = Checks.four();
        Checks.law(x, 1, "add 0-2 when kind=1 and prize=5;fight 1 when across<0-9;");
        c.due("0, -2, .. -10", x.least(1, 0), 5);
        c.due("days apart do not count", x.least(1, 9), 5);
        c.due("least(1, 10)", x.least(1, 10), NONE);
        c.due("least(1, -1)", x.least(1, -1), NONE);
        c.due("least(4, 0)", x.least(4, 0), NONE);
        c.due("least(-1, 0)", x.least(-1, 0), NONE);
        c.due("no fight", x.least(0, 0), NONE);
        Checks.law(x, 2, "fight 1 when kind=0;fight 1 when day=22;");
        c.due("fights apart do not count", x.least(2, 3), 20);
        c.due("nor those behind the 20th", x.least(2, 2), NONE);
        c.due("more days apart, sooner", x.least(2, 9), 14);
        Checks.law(x, 3, "fight lost;");
        c.due("a lot fights on the first", x.least(3, 0), 1);
        Checks.law(x, 3, "fight wronged;");
        c.due("nobody is wronged", x.least(3, 0), NONE);
        Checks.law(x, 3, "add 1 when kind=0 and prize>0;fight 1 when across>0;");
        c.due("no prize apart", x.least(3, 9), NONE);
    }

    private static void back() {
        TwoCamps x = Checks.four();
        Checks.law(x, 1, "add 1 when kind=3 and same=0;");
        c.due("0 already", x.back(1), 0);
        x.like(0, 2, -1);
        c.due("-1/8 goes down to -1; one day", x.back(1), 1);
        for (int k = 0; k < 8; k++) {
            x.like(k / 4 * 2 + k / 2 % 2, k < 4 ? 2 + k % 2 : k % 2, -30);
        }
        c.due("cross", x.look(3), -30);
        c.due("30", x.back(1), 30);
        c.due("not by the empty law", x.back(0), NONE);
        c.due("back(4)", x.back(4), NONE);
        c.due("back(-1)", x.back(-1), NONE);
        x.like(0, 2, -37);
        c.due("the last day but: -37 and 7 of -30", x.look(3), -31);
        c.due("31 are too many", x.back(1), NONE);
        Checks.law(x, 2, "add 50 when kind=3;");
        c.due("one", x.back(2), 1);
        Checks.law(x, 3, "add 50 when prize>0 or wronged=1;");
        c.due("no prize together", x.back(3), NONE);
        Checks.law(x, 3, "home 1 when strong<3;");
        c.due("a mean of nothing is 0", x.back(3), 1);
    }

    private static void row() {
        TwoCamps x = new TwoCamps();
        c.due("row(NONE)", x.row(NONE), 0);
        c.due("row(4)", x.row(4), -2);
        c.due("row(-2)", x.row(-2), -2);
        c.due("row(far)", x.row(Integer.MIN_VALUE), -2);
        for (int k = 0; k < 5; k++) {
            c.due("row " + k, x.row(k % 4), k + 1);
        }
        c.due("the sixth", x.row(0), -2);
        c.due("look(7)", x.look(7), 5);
        c.due("row(NONE)", x.row(NONE), 0);
        c.due("look(7)", x.look(7), 0);
        c.due("row(3)", x.row(3), 1);
    }

    private static void parts() {
        TwoCamps x = Checks.four();
        Checks.law(x, 1, "add day*10 when kind=3 and same=0;add 1 when kind=1 and prize=5 and same=0;");
        c.due("an empty row", x.parts(0, 1, 0), 0);
        c.due("has no place", x.parts(0, 1, 1), NONE);
        x.row(3);
        x.row(0);
        x.row(1);
        x.row(2);
        c.due("together as the last", x.parts(0, 1, 0), 31);
        int[] order = {1, 2, 3, 0};
        for (int i = 0; i < 4; i++) {
            c.due("place " + i, x.parts(0, 1, 1 + i), order[i]);
            c.due("the other way round " + i, x.parts(1, 0, 1 + i), order[i]);
            c.due("alike: the first, " + i, x.parts(1, 1, 1 + i), i);
        }
        c.due("alike", x.parts(1, 1, 0), 0);
        c.due("no fifth place", x.parts(0, 1, 5), NONE);
        c.due("parts(0, 1, -1)", x.parts(0, 1, -1), NONE);
        c.due("parts(4, 1, 0)", x.parts(4, 1, 0), NONE);
        c.due("parts(0, -1, 0)", x.parts(0, -1, 0), NONE);
        Checks.law(x, 2, "add 0-27 when day=3 and kind=1 and same=0;add 2 when day=0 and kind=2;");
        c.due("21 and -27", x.parts(1, 2, 0), 48);
        c.due("of several the first", x.parts(1, 2, 1) * 100 + x.parts(1, 2, 2) * 10 + x.parts(1, 2, 3), 130);
        Checks.law(x, 3, "add 9 when prize=0 and kind=1 or prize>0 and not kind=1 or wronged=1;");
        c.due("a prize against alone", x.parts(0, 3, 0), 0);
        x.row(1);
        Checks.law(x, 3, "add 5 when day=4 and won=1;add 1 when day=0 and kind=1;");
        c.due("five in the row", x.parts(0, 3, 0), 3);
        int[] five = {2, 0, 1, 3, 4};
        for (int i = 0; i < 5; i++) {
            c.due("of five, place " + i, x.parts(0, 3, 1 + i), five[i]);
        }
    }

    /** No DAY of an order is gone by when 60 have. */
    private static void partsNearTheEnd() {
        TwoCamps x = Checks.four();
        for (int d = 0; d < 59; d++) {
            x.day(0, 0, NONE);
        }
        Checks.law(x, 1, "add 5 when kind=2;add 3 when kind=3;");
        x.row(3);
        x.row(2);
        c.due("one day is left", x.parts(0, 1, 0), 5);
        c.due("the better kind on it", x.parts(0, 1, 1), 1);
    }

    private static void toldAndOff() {
        TwoCamps x = Checks.four();
        Checks.plan(x, 0, "apart;stir 0;beside;against 1;");
        Checks.law(x, 1, "add 4 when wronged=1;add 1;");
        c.due("none told", x.off(0, 1), 0);
        c.due("told(1, 50)", x.told(1, 50), true);
        c.due("off by 49", x.off(0, 1), 49);
        c.due("told(1, -50)", x.told(1, -50), true);
        c.due("off by 51", x.off(0, 1), 51);
        c.due("told(2, 0)", x.told(2, 0), true);
        // Across LOT 0 adds 4 and LOT 1 adds 1 on the second day: 5 and 2, a mean of 3.
        c.due("off by 51 and 3", x.off(0, 1), 54);
        c.due("told(4, 9)", x.told(4, 9), true);
        c.due("a day that the plan has not", x.off(0, 1), 54);
        c.due("told(24, 9)", x.told(24, 9), true);
        c.due("told(1, -100)", x.told(1, -100), true);
        c.due("not any more", x.off(0, 1), 3);
        c.due("told(3, -100)", x.told(3, -100), true);
        int[][] wrong = {{0, 0}, {25, 0}, {-1, 0}, {1, 51}, {1, -51}, {1, -1000}, {1, -99}, {1, -101},
            {Integer.MAX_VALUE, 0}};
        for (int[] w : wrong) {
            c.due("told(" + w[0] + ", " + w[1] + ")", x.told(w[0], w[1]), false);
        }
        c.due("as it was", x.off(0, 1), 3);
        c.due("by the empty law", x.off(0, 0), 0);
        c.due("an empty plan", x.off(3, 1), 0);
        c.due("off(4, 0)", x.off(4, 0), NONE);
        c.due("off(-1, 0)", x.off(-1, 0), NONE);
        c.due("off(0, 4)", x.off(0, 4), NONE);
        c.due("off(0, -1)", x.off(0, -1), NONE);
    }

    private static void fitting() {
        TwoCamps x = Checks.four();
        Checks.plan(x, 1, "apart;apart;");
        Checks.law(x, 1, "add 3;");
        Checks.law(x, 2, "add 2;");
        Checks.law(x, 3, "add 2 when same=0;");
        c.due("none told: the first", x.fitting(1), 0);
        x.told(2, 4);
        c.due("of 2 and 3 the first", x.fitting(1), 2);
        x.told(1, 5);
        x.told(2, 5);
        c.due("2 + 1 of law 1, 3 + 1 of law 2", x.fitting(1), 1);
        Checks.plan(x, 2, "stir 0;beside;");
        Checks.law(x, 3, "add 10 when wronged=1 and kind=2;");
        c.due("by what men did: 5 of law 3", x.off(2, 3), 0);
        c.due("and so it fits", x.fitting(2), 3);
        Checks.law(x, 3, "add 2 when same=0;");
        x.told(1, -4);
        x.told(2, -5);
        c.due("the empty one", x.fitting(1), 0);
        c.due("fitting(4)", x.fitting(4), NONE);
        c.due("fitting(-1)", x.fitting(-1), NONE);
        c.due("an empty plan", x.fitting(0), 0);
    }
}
