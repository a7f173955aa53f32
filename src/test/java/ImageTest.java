/** Promises 29 and 30: image, look. */
public final class ImageTest {
    private static final int NONE = TwoCamps.NONE;
    private static final Checks c = new Checks();

    public static void main(String[] args) {
        image();
        all();
        look();
        c.end("ImageTest");
    }

    private static void image() {
        TwoCamps x = new TwoCamps();
        c.due("none taken", x.image(false), false);
        x.boy(0, 1);
        c.due("nothing was done", x.look(0), 1);
        c.due("taken", x.image(true), true);
        x.boy(1, 2);
        c.due("gone back to", x.image(false), true);
        c.due("one boy", x.look(0), 1);
        c.due("a new one", x.boy(0, 3), 1);
        c.due("of his own lot", x.of(1, 0), 0);
        c.due("gone back to again", x.image(false), true);
        c.due("one boy", x.look(0), 1);
        x.boy(1, 7);
        c.due("taken again", x.image(true), true);
        x.boy(1, 7);
        x.image(false);
        c.due("two boys", x.look(0), 2);
        x.like(0, 1, 5);
        x.image(false);
        c.due("what is done behind it does not change it", x.of(0, 101), 0);
    }

    /** All but the TAPE comes back. */
    private static void all() {
        TwoCamps x = new TwoCamps();
        for (int i = 0; i < 8; i++) {
            x.boy(i % 2, i);
            x.number(i, i * i);
        }
        tell(x, 3, 1, 7);
        x.image(true);
        int[] before = asked(x);
        tell(x, -9, 2, 50);
        Checks.law(x, 0, "home 1 when strong=5;fight 3;name 1;slip same;");
        x.force(0);
        x.plan(1);
        x.day(3, 0, 1);
        x.day(1, 9, 1);
        x.row(2);
        c.due("feed", x.feed(1, 2, 3, 4, 5), 20);
        int[] between = asked(x);
        int other = 0;
        for (int k = 0; k < before.length; k++) {
            other += before[k] == between[k] ? 0 : 1;
        }
        c.due("much is another", other > 20, true);
        for (int time = 0; time < 2; time++) {
            x.image(false);
            int[] behind = asked(x);
            for (int k = 0; k < before.length; k++) {
                c.due("answer " + k, behind[k], before[k]);
            }
            x.day(1, 0, 0);
        }
        c.due("the tape stays", x.end(20), true);
        TwoCamps y = Checks.four();
        Checks.law(y, 1, "add kind when same=0;");
        y.row(3);
        y.image(true);
        y.row(NONE);
        y.row(1);
        c.due("another row", y.parts(0, 1, 0), 1);
        y.image(false);
        c.due("the row of the image", y.parts(0, 1, 0), 3);
    }

    private static void tell(TwoCamps x, int like, int law, int number) {
        x.state(like);
        x.like(0, 1, like);
        x.like(1, 0, like - 1);
        x.like(2, 4, like + 2);
        x.knew(0, 1, like > 0);
        x.number(0, number);
        x.number(3, number / 2);
        Checks.law(x, 1, "add " + law + ";fight day;"
                + "see knew+kind*100+prize*10+day*40+won*3+lost*5+wronged*7+" + law + ";");
        Checks.plan(x, 1, law == 1 ? "stir 0;against 3;apart;" : "beside;stir 1;against 2;");
        x.force(1);
        x.told(1, number);
        x.row(law);
        x.day(1, law, 0);
        x.day(2, 0, NONE);
    }

    private static int[] asked(TwoCamps x) {
        int[] all = new int[250];
        int n = 0;
        for (int what = 0; what < 8; what++) {
            all[n++] = x.look(what);
        }
        for (int i = 0; i < 8; i++) {
            for (int what = 0; what < 12; what++) {
                all[n++] = x.of(i, what);
            }
        }
        for (int what = 0; what < 18; what++) {
            all[n++] = x.lot(what % 2, what / 2);
        }
        for (int what = 0; what < 32; what++) {
            all[n++] = x.kept(1 + what / 8, what % 8);
        }
        for (int k = 0; k < 4; k++) {
            all[n++] = x.led(1, k, true, 2);
            all[n++] = x.off(1, k);
            all[n++] = x.led(k, 1, false, 6);
            all[n++] = x.back(k);
        }
        all[n++] = x.beans(0, 1, 30);
        all[n++] = x.beans(1, 0, 30);
        all[n++] = x.beans(4, 0, 30);
        all[n++] = x.seen(30, 2);
        all[n++] = x.parts(0, 1, 0);
        all[n++] = x.cut(0);
        all[n++] = x.of(0, 101);
        int state = x.state(0);
        x.state(state);
        all[n++] = state;
        int force = x.force(0);
        x.force(force);
        all[n++] = force;
        return all;
    }

    private static void look() {
        TwoCamps x = new TwoCamps();
        x.boy(0, 1);
        x.boy(1, 2);
        x.boy(1, 3);
        x.like(0, 1, -9);
        Checks.law(x, 2, "home 1 when strong=3;fight size-1;");
        x.force(2);
        x.day(2, 0, NONE);
        x.day(2, 0, NONE);
        x.row(0);
        int[] want = {3, 2, 2, -5, 2, 1, 3, 1};
        for (int what = 0; what < 8; what++) {
            c.due("look(" + what + ")", x.look(what), want[what]);
        }
        c.due("look(8)", x.look(8), -100);
        c.due("look(-1)", x.look(-1), -100);
        c.due("look(least)", x.look(Integer.MIN_VALUE), -100);
    }
}
