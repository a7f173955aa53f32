import java.util.Arrays;
import java.util.TreeSet;

/**
 * Boundary cases, each by itself: a run of calls on an object of its own, under the words of the document that name
 * the boundary. A call "look(0) = 1" has its answer behind it; "LAW 0: see = 1 at 3" wants FAULT 1 at place 3; one
 * without an answer leads to the boundary and must not be refused; "3 x day(0, 0, NONE)" is done three times.
 */
final class Bounds {
    private final Checks checks = new Checks();
    private final TreeSet<Integer> promises = new TreeSet<>();
    private int bounds;
    private int promise;

    /** The bounds behind this are of that promise. */
    void promise(int number) {
        promise = number;
        promises.add(number);
    }

    void bound(String words, String[] ahead, String... behind) {
        String[] run = Arrays.copyOf(ahead, ahead.length + behind.length);
        System.arraycopy(behind, 0, run, ahead.length, behind.length);
        bound(words, run);
    }

    void bound(String words, String... run) {
        bounds++;
        Calls calls = new Calls();
        int asked = 0;
        for (String step : run) {
            String name = "promise " + promise + ", \"" + words + "\": " + step;
            String told = Calls.callOf(step);
            int sign = told.lastIndexOf(" = ");
            asked += sign < 0 ? 0 : 1;
            for (int k = 0; k < Calls.times(step); k++) {
                step(name, calls, sign < 0 ? told : told.substring(0, sign), sign < 0 ? "" : told.substring(sign + 3));
            }
        }
        checks.due("promise " + promise + ", \"" + words + "\" is asked about", asked > 0, true);
    }

    private void step(String name, Calls calls, String call, String want) {
        try {
            calls.call(call);
        } catch (IllegalStateException thrown) {
            checks.due(name + " threw " + thrown.getCause(), false, true);
            return;
        }
        long got = calls.got;
        checks.due(name + " (by the model)", calls.meant, got);
        int at = want.indexOf(" at ");
        if (at > 0) {
            checks.due(name, got, TwoCamps.NONE);
            checks.due(name + ": FAULT", calls.x.fault(0), Long.parseLong(want.substring(0, at)));
            checks.due(name + ": place", calls.x.fault(1), Long.parseLong(want.substring(at + 4)));
        } else if (want.isEmpty()) {
            checks.due(name + " is not refused", call.startsWith("state") || !isRefusal(call, got), true);
        } else {
            checks.due(name, got, answer(want));
        }
    }

    private static boolean isRefusal(String call, long got) {
        boolean isYesOrNo = call.matches("(like|knew|end|told|number|image)\\(.*");
        return isYesOrNo ? got == 0 : got < 0;
    }

    private static long answer(String want) {
        switch (want) {
            case "true":
                return 1;
            case "false":
                return 0;
            case "NONE":
                return TwoCamps.NONE;
            case "MIN":
                return Integer.MIN_VALUE;
            case "MAX":
                return Integer.MAX_VALUE;
            default:
                return Long.parseLong(want);
        }
    }

    /** Ends the test; each of its promises must have had a bound. */
    void end(String test, int... numbers) {
        for (int number : numbers) {
            checks.due("promise " + number + " has bounds", promises.contains(number), true);
        }
        System.out.println(test + ": " + bounds + " bounds");
        checks.end(test);
    }
}
