/** Promises 1 to 5: a new object, boy, like, knew, state. */
public final class BoysTest {
    private static final int NONE = TwoCamps.NONE;
    private static final Checks c = new Checks();

    public static void main(String[] args) {
        newObject();
        boy();
        like();
        knew();
        state();
        c.end("BoysTest");
    }

    private static void newObject() {
        TwoCamps x = new TwoCamps();
        for (int what = 0; what < 8; what++) {
            c.due("new: look(" + what + ")", x.look(what), 0);
        }
        for (int k = 0; k < 4; k++) {
            c.due("new: led(k, k, true, 6)", x.led(k, k, true, 6), 0);
            c.due("new: off(k, k)", x.off(k, k), 0);
        }
        c.due("new: fault(0)", x.fault(0), 0);
        c.due("new: fault(1)", x.fault(1), NONE);
        c.due("new: end(1)", x.end(1), false);
        c.due("new: image(false)", x.image(false), false);
        c.due("new: state", x.state(5), 0);
        c.due("new: of(0, 0)", x.of(0, 0), -100);
    }

    private static void boy() {
        TwoCamps x = new TwoCamps();
        c.due("boy(-1, 0)", x.boy(-1, 0), NONE);
        c.due("boy(2, 0)", x.boy(2, 0), NONE);
        c.due("boy(0, -1)", x.boy(0, -1), NONE);
        c.due("boy(0, 10)", x.boy(0, 10), NONE);
        c.due("boy(least, most)", x.boy(Integer.MIN_VALUE, Integer.MAX_VALUE), NONE);
        for (int i = 0; i < 24; i++) {
            c.due("boy " + i, x.boy(i % 2, i % 10), i);
        }
        c.due("the 25th", x.boy(0, 0), NONE);
        for (int i = 0; i < 24; i++) {
            c.due("lot of " + i, x.of(i, 0), i % 2);
            c.due("strength of " + i, x.of(i, 1), i % 10);
            c.due("there " + i, x.of(i, 2), 1);
            c.due("loyal " + i, x.of(i, 7), 1);
            c.due("like of " + i, x.of(i, i == 0 ? 101 : 100), 0);
        }
        c.due("all", x.look(0), 24);
        TwoCamps y = new TwoCamps();
        y.boy(0, 0);
        y.image(true);
        y.day(0, 0, NONE);
        c.due("behind a day", y.boy(0, 0), NONE);
        y.image(false);
        c.due("as none has gone by", y.boy(1, 0), 1);
    }

    private static void like() {
        TwoCamps x = new TwoCamps();
        x.boy(0, 1);
        x.boy(1, 1);
        c.due("like(0, 1, 50)", x.like(0, 1, 50), true);
        c.due("of(0, 101)", x.of(0, 101), 50);
        c.due("of(1, 100)", x.of(1, 100), 0);
        c.due("like(1, 0, -50)", x.like(1, 0, -50), true);
        c.due("of(1, 100)", x.of(1, 100), -50);
        c.due("like 51", x.like(0, 1, 51), false);
        c.due("like -51", x.like(0, 1, -51), false);
        c.due("like himself", x.like(0, 0, 1), false);
        c.due("like nobody", x.like(0, 2, 1), false);
        c.due("nobody likes", x.like(2, 0, 1), false);
        c.due("like -1", x.like(-1, 0, 1), false);
        c.due("like 24", x.like(0, 24, 1), false);
        c.due("as it was", x.of(0, 101), 50);
        c.due("himself", x.of(0, 100), -100);
        Checks.law(x, 0, "home 1 when strong=1;");
        x.day(0, 0, NONE);
        c.due("both are gone", x.look(1), 0);
        c.due("like of one who is gone", x.like(0, 1, 7), true);
        c.due("of(0, 101) of one who is gone", x.of(0, 101), 7);
    }

    private static void knew() {
        TwoCamps x = new TwoCamps();
        for (int i = 0; i < 3; i++) {
            x.boy(0, 0);
        }
        c.due("knew himself", x.knew(1, 1, true), false);
        c.due("knew nobody", x.knew(0, 3, true), false);
        c.due("nobody knew", x.knew(-1, 0, true), false);
        c.due("knew far", x.knew(0, Integer.MAX_VALUE, true), false);
        c.due("knew(2, 0)", x.knew(2, 0, true), true);
        Checks.law(x, 0, "see knew;");
        c.due("2 knew 0", x.beans(2, 0, 5), 6);
        c.due("0 knew 2", x.beans(0, 2, 5), 6);
        c.due("0 knew not 1", x.beans(0, 1, 5), 5);
        c.due("knew(0, 2) not", x.knew(0, 2, false), true);
        c.due("2 knew 0 no more", x.beans(2, 0, 5), 5);
        x.knew(0, 1, true);
        x.knew(1, 2, true);
        x.knew(2, 0, true);
        c.due("knew(1, 0) not", x.knew(1, 0, false), true);
        c.due("0 knew not 1", x.beans(0, 1, 5) + x.beans(1, 0, 5), 10);
        c.due("0 knew 2 all the same", x.beans(0, 2, 5) + x.beans(2, 0, 5), 12);
        c.due("1 knew 2 all the same", x.beans(1, 2, 5) + x.beans(2, 1, 5), 12);
    }

    private static void state() {
        TwoCamps x = new TwoCamps();
        c.due("state", x.state(Integer.MIN_VALUE), 0);
        c.due("state", x.state(0), Integer.MIN_VALUE);
        x.day(1, 0, NONE);
        c.due("two draws by a day against", x.state(0), 1196435762);
        x.day(0, 0, NONE);
        x.day(2, 0, NONE);
        x.day(3, 0, NONE);
        c.due("none by another", x.state(0), 0);
        x.day(1, 3, NONE);
        x.day(1, 3, NONE);
        c.due("four draws", x.state(0), (int) 2868466484L);
    }
}
