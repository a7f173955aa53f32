import java.nio.charset.StandardCharsets;
import java.util.Arrays;

/** Counts the answers of one test that are not as due, and feeds texts. */
final class Checks {
    /** The most and the least int as an E: no NUMBER has more than four digits. */
    static final String MOST = "9999*9999*21+4790*9999+8416";
    static final String LEAST = "0-9999*9999*21-4790*9999-8417";

    private int asked;
    private int wrong;

    void due(String call, long got, long want) {
        asked++;
        if (got != want) {
            wrong++;
            if (wrong <= 40) {
                System.out.println(call + " answered " + got + ", due is " + want);
            }
        }
    }

    void due(String call, boolean got, boolean want) {
        due(call, got ? 1 : 0, want ? 1 : 0);
    }

    /** Ends the test: exit code 1 if an answer was not as due, or none was asked. */
    void end(String test) {
        System.out.println(test + ": " + asked + " answers, " + wrong + " not as due");
        if (wrong != 0 || asked == 0) {
            System.exit(1);
        }
    }

    /** A wood with BOYS 0 and 1 of LOT 0, 2 and 3 of LOT 1, STRENGTHS 1 to 4. */
    static TwoCamps four() {
        TwoCamps x = new TwoCamps();
        x.boy(0, 1);
        x.boy(0, 2);
        x.boy(1, 3);
        x.boy(1, 4);
        return x;
    }

    /** Puts a text on the TAPE, behind what stands there, and cuts what was fed too much. */
    static void put(TwoCamps x, String text, int ahead) {
        byte[] bytes = text.getBytes(StandardCharsets.ISO_8859_1);
        for (int at = 0; at < bytes.length; at += 20) {
            int[] five = fiveOf(Arrays.copyOfRange(bytes, at, at + 20));
            x.feed(five[0], five[1], five[2], five[3], five[4]);
        }
        x.end(ahead + bytes.length);
    }

    static int[] fiveOf(byte[] twenty) {
        int[] five = new int[5];
        for (int k = 0; k < 20; k++) {
            five[k / 4] = five[k / 4] << 8 | twenty[k] & 255;
        }
        return five;
    }

    /** A LAW that must have no FAULT: how many lines. */
    static int law(TwoCamps x, int k, String text) {
        return tell(x, 0, k, text);
    }

    /** A PLAN that must have no FAULT: how many lines. */
    static int plan(TwoCamps x, int k, String text) {
        return tell(x, 1, k, text);
    }

    private static int tell(TwoCamps x, int sort, int k, String text) {
        put(x, text, 0);
        int lines = x.text(sort, k);
        if (lines == TwoCamps.NONE) {
            throw new AssertionError("FAULT " + x.fault(0) + " at " + x.fault(1) + " of " + text);
        }
        return lines;
    }

    /** Wants a FAULT of a text at a place, with the TAPE empty behind it. */
    void fault(int sort, String text, int fault, int place) {
        TwoCamps x = new TwoCamps();
        put(x, text, 0);
        String call = (sort == 0 ? "law " : "plan ") + text;
        due(call, x.text(sort, 0), TwoCamps.NONE);
        due(call + ": fault", x.fault(0), fault);
        due(call + ": place", x.fault(1), place);
        due(call + ": end(1)", x.end(1), false);
    }

    /** Wants so many lines and no FAULT. */
    void lines(int sort, String text, int lines) {
        TwoCamps x = new TwoCamps();
        put(x, text, 0);
        String call = (sort == 0 ? "law " : "plan ") + text;
        due(call, x.text(sort, 0), lines);
        due(call + ": fault", x.fault(0), 0);
        due(call + ": place", x.fault(1), TwoCamps.NONE);
    }
}
