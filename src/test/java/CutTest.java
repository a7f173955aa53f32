/** Promises 26 to 28: number, cut, woods. */
public final class CutTest {
    private static final int NONE = TwoCamps.NONE;
    private static final Checks c = new Checks();

    public static void main(String[] args) {
        number();
        cuts();
        cutsOfMany();
        woods();
        c.end("CutTest");
    }

    private static void number() {
        TwoCamps x = new TwoCamps();
        c.due("nobody", x.number(0, 1), false);
        x.boy(0, 0);
        c.due("0", x.number(0, 0), true);
        c.due("99", x.number(0, 99), true);
        c.due("100", x.number(0, 100), false);
        c.due("-1", x.number(0, -1), false);
        c.due("boy 1", x.number(1, 5), false);
        c.due("boy -1", x.number(-1, 5), false);
        Checks.law(x, 0, "home 1;");
        x.day(0, 0, NONE);
        c.due("one who is gone", x.number(0, 5), true);
    }

    private static void cutAs(String call, TwoCamps x, int great, int all, int asTwo) {
        c.due(call + ": cut(0)", x.cut(0), great);
        c.due(call + ": cut(1)", x.cut(1), all);
        c.due(call + ": cut(2)", x.cut(2), asTwo);
    }

    /** BOYS of LOT 0 with some NUMBERS, then of LOT 1. */
    private static TwoCamps lots(int[] first, int[] other) {
        TwoCamps x = new TwoCamps();
        for (int v : first) {
            x.number(x.boy(0, 1), v);
        }
        for (int v : other) {
            x.number(x.boy(1, 2), v);
        }
        return x;
    }

    private static void cuts() {
        cutAs("nobody", new TwoCamps(), 1, 1, 1000);
        cutAs("one lot", lots(new int[] {5, 6}, new int[] {}), 1, 1, 1000);
        cutAs("the other", lots(new int[] {}, new int[] {5, 6}), 1, 1, 1000);
        cutAs("the greatest", lots(new int[] {9, 8}, new int[] {1, 2, 3}), 1, 10, 100);
        cutAs("the least", lots(new int[] {1, 2}, new int[] {9, 8, 3}), 10, 10, 1000);
        cutAs("three of four", lots(new int[] {5, 6, 7}, new int[] {6}), 3, 4, 750);
        cutAs("one of three", lots(new int[] {5}, new int[] {6, 4}), 2, 3, 666);
        cutAs("two of three", lots(new int[] {6, 4}, new int[] {5}), 2, 3, 666);
        cutAs("all alike", lots(new int[] {7, 7, 7}, new int[] {7, 7, 7}), 20, 20, 1000);
        TwoCamps x = lots(new int[] {1, 9, 9}, new int[] {4, 5, 6});
        c.due("cut(3)", x.cut(3), NONE);
        c.due("cut(-1)", x.cut(-1), NONE);
        cutAs("19 at least of 1, 9, 9, 4, 5, 6", x, 8, 20, 400);
        Checks.law(x, 0, "home 1 when strong=1 and day=0;");
        TwoCamps y = lots(new int[] {3, 99}, new int[] {1, 2});
        Checks.law(y, 0, "home 1 when own>0 and strong=1;");
        y.like(0, 1, 50);
        y.day(0, 0, NONE);
        cutAs("those that are there", y, 1, 3, 333);
    }

    private static void cutsOfMany() {
        int[] zeros = new int[12];
        cutAs("24 of 0", lots(zeros, zeros), 2704156, 2704156, 1000);
        int[] most = new int[12];
        java.util.Arrays.fill(most, 99);
        cutAs("24 of 99", lots(most, most), 2704156, 2704156, 1000);
        cutAs("99 against 0", lots(most, zeros), 1, 2704156, 0);
        cutAs("0 against 99", lots(zeros, most), 2704156, 2704156, 1000);
        int[] long20 = new int[20];
        java.util.Arrays.fill(long20, 99);
        cutAs("20 against 4", lots(long20, new int[4]), 1, 10626, 0);
        cutAs("4 against 20", lots(new int[] {99, 99, 99, 98}, long20), 10626, 10626, 1000);
        cutAs("all 24 of one lot", lots(new int[24], new int[0]), 1, 1, 1000);
    }

    private static void woods() {
        c.due("woods(0, 2)", new TwoCamps().woods(0, 2), 2);
        TwoCamps x = new TwoCamps();
        c.due("woods(0, 3): 1/4", x.woods(0, 3), 2);
        c.due("woods(0, 4): 1/4 is not below", x.woods(0, 4), 3);
        c.due("woods(0, 65536)", x.woods(0, 65536), 17);
        c.due("woods(0, 65535)", x.woods(0, 65535), 16);
        c.due("woods(0, 100000)", x.woods(0, 100000), 17);
        c.due("woods(1, 2): 4 of 8 is not below, 5 of 16 is", x.woods(1, 2), 4);
        c.due("woods(1, 3)", x.woods(1, 3), 4);
        c.due("woods(2, 2)", x.woods(2, 2), 6);
        c.due("woods(9, 2)", x.woods(9, 2), 20);
        c.due("woods(9, 100000)", x.woods(9, 100000), 48);
        c.due("woods(-1, 5)", x.woods(-1, 5), NONE);
        c.due("woods(10, 5)", x.woods(10, 5), NONE);
        c.due("woods(0, 1)", x.woods(0, 1), NONE);
        c.due("woods(0, 0)", x.woods(0, 0), NONE);
        c.due("woods(0, 100001)", x.woods(0, 100001), NONE);
        c.due("woods(most, most)", x.woods(Integer.MAX_VALUE, Integer.MAX_VALUE), NONE);
    }
}
