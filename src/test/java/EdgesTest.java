import java.util.ArrayList;
import java.util.Arrays;
import java.util.List;

/**
 * Each call with all numbers at, just inside, just outside and far outside of its bounds, in woods that are empty, full
 * or old: the answer is the model's, and behind a call that is refused all that can be asked is as it was.
 */
public final class EdgesTest {
    private static final int MIN = Integer.MIN_VALUE;
    private static final int MAX = Integer.MAX_VALUE;
    private static final Object[] YES_NO = {true, false};
    private static final Object[] BOYS = {MIN, -1, 0, 1, 4, 5, 22, 23, 24, MAX};
    private static final Object[] TEXTS = {MIN, -1, 0, 3, 4, MAX};
    private static final Object[] WHATS = {MIN, -100, -2, -1, 0, 1, 2, 3, 4, 5, 6, 7, 8, 9, 10, 11, 12, 99, 100, 101, 104, 105,
        123, 124, MAX};
    private static final String LAW = "add kind-2 when same=0;fight day;home 1 when strong=9 and day>0;name prize-4;"
            + "see like+knew;slip strong when same=0;";
    private static final String[] EMPTY = {};
    private static final String[] FIVE = {"BOYS 05 14 09 12 07", "like(0, 1, -50)", "like(1, 0, 50)", "like(2, 4, 7)",
        "knew(0, 1, true)", "number(0, 99)", "number(3, 40)", "number(4, 41)", "LAW 0: " + LAW, "LAW 3: fight 1;add like;",
        "PLAN 0: stir 0;against 9;apart;", "PLAN 3: beside;", "told(1, -3)", "told(24, 9)", "row(1)", "row(3)", "state(-7)"};
    private static final String[][] WOODS = {EMPTY, {"BOYS 13"}, FIVE, behind(FIVE, "image(true)", "2 x day(1, 5, 1)",
        "3 x row(2)", "feed(1, 2, 3, 4, 5)"), {"24 x boy(1, 9)", "number(23, 1)", "25 x feed(0, 0, 0, 0, 0)", "5 x row(3)"},
        behind(FIVE, "60 x day(0, 0, NONE)", "row(NONE)", "25 x feed(0, 0, 0, 0, 0)", "end(481)"),
        behind(FIVE, "59 x day(2, 0, 0)", "force(3)", "image(true)")};

    private final Checks checks = new Checks();
    private String[] wood;
    private long[] before;

    public static void main(String[] args) {
        EdgesTest test = new EdgesTest();
        for (String[] wood : WOODS) {
            test.wood = wood;
            test.before = asked(test.made());
            test.callAll();
        }
        test.checks.end("EdgesTest");
    }

    private static String[] behind(String[] run, String... more) {
        String[] all = Arrays.copyOf(run, run.length + more.length);
        System.arraycopy(more, 0, all, run.length, more.length);
        return all;
    }

    private Calls made() {
        Calls calls = new Calls();
        for (String step : wood) {
            for (int k = 0; k < Calls.times(step); k++) {
                calls.call(Calls.callOf(step));
            }
        }
        return calls;
    }

    private void callAll() {
        Object[] one = {MIN, -2, -1, 0, 1, 2, 3, 4, 5, 9, 10, 30, 31, 60, 61, 1000, MAX};
        all("boy", at(MIN, -1, 0, 1, 2, MAX), at(MIN, -1, 0, 9, 10, MAX));
        all("like", BOYS, BOYS, at(MIN, -51, -50, 0, 50, 51, MAX));
        all("knew", BOYS, BOYS, YES_NO);
        all("state", at(MIN, -1, 0, 1, MAX));
        all("feed", at(MIN, -1, 0x20202020), at(0), at(MAX), at(1), at(0x3b3b3b3b));
        all("end", at(MIN, -1, 0, 1, 19, 20, 21, 480, 481, 482, 499, 500, 501, MAX));
        all("text", at(MIN, -1, 0, 1, 2, MAX), TEXTS);
        all("fault", one);
        all("force", TEXTS);
        all("day", at(MIN, -1, 0, 1, 2, 3, 4, MAX), at(MIN, -1, 0, 1, 9, 10, MAX),
                at(MIN, -2, -1, 0, 1, 2, MAX));
        all("plan", TEXTS);
        all("of", BOYS, WHATS);
        all("lot", at(MIN, -1, 0, 1, 2, MAX), WHATS);
        all("kept", at(MIN, -1, 0, 1, 2, 3, 59, 60, 61, MAX), WHATS);
        all("beans", BOYS, BOYS, at(MIN, -1, 0, 999, 1000, MAX));
        all("seen", at(MIN, -1, 0, 999, 1000, MAX), WHATS);
        all("led", TEXTS, TEXTS, YES_NO, at(MIN, -1, 0, 1, 2, 3, 4, 5, 6, 7, MAX));
        all("least", TEXTS, at(MIN, -1, 0, 1, 9, 10, MAX));
        all("back", TEXTS);
        all("row", one);
        all("parts", at(MIN, -1, 0, 4, MAX), at(-1, 3, 4), at(MIN, -1, 0, 1, 2, 3, 5, 6, MAX));
        all("told", at(MIN, -1, 0, 1, 24, 25, MAX), at(MIN, -101, -100, -99, -51, -50, 50, 51, MAX));
        all("off", TEXTS, TEXTS);
        all("fitting", TEXTS);
        all("number", BOYS, at(MIN, -1, 0, 99, 100, MAX));
        all("cut", at(MIN, -1, 1, 3, MAX));
        all("woods", at(MIN, -1, 0, 9, 10, MAX), at(MIN, 0, 1, 2, 100000, 100001, MAX));
        all("image", YES_NO);
        all("look", one);
    }

    private static Object[] at(Object... numbers) {
        return numbers;
    }

    /** The call with all of these numbers, each with each. */
    private void all(String name, Object[]... numbers) {
        int count = 1;
        for (Object[] of : numbers) {
            count *= of.length;
        }
        for (int k = 0; k < count; k++) {
            Object[] told = new Object[numbers.length];
            int rest = k;
            for (int n = 0; n < told.length; n++) {
                told[n] = numbers[n][rest % numbers[n].length];
                rest /= numbers[n].length;
            }
            one(name, told);
        }
    }

    private void one(String name, Object... told) {
        String call = "in " + wood.length + " steps, " + name + Arrays.toString(told);
        Calls calls = made();
        calls.of(name, told);
        checks.due(call, calls.got, calls.meant);
        // Where text() is refused the FAULT is told anew and the TAPE is empty.
        if (isRefused(name, calls.meant) && !name.equals("text")) {
            checks.due(call + " changed something", Arrays.equals(asked(calls), before), true);
        }
    }

    private static boolean isRefused(String name, long meant) {
        if (List.of("like", "knew", "end", "told", "number", "image").contains(name)) {
            return meant == 0;
        }
        return !name.equals("state") && meant < 0;
    }

    /** All that can be asked without changing much, and the TAPE and STATE at the end. */
    private static long[] asked(Calls calls) {
        List<Long> all = new ArrayList<>();
        for (int what = -1; what <= 8; what++) {
            ask(all, calls, "look", what);
            ask(all, calls, "lot", 0, what);
            ask(all, calls, "lot", 1, what);
        }
        for (int what = 0; what < 12; what++) {
            ask(all, calls, "of", 0, what);
            ask(all, calls, "of", 4, what);
            ask(all, calls, "of", 23, what);
            ask(all, calls, "kept", 1 + what / 8, what % 8);
            ask(all, calls, "kept", 60, what);
        }
        for (int i = 0; i < 5; i++) {
            ask(all, calls, "of", i, 100 + (i + 1) % 5);
            ask(all, calls, "of", i, 100 + (i + 2) % 5);
            ask(all, calls, "beans", i, (i + 1) % 5, 500);
        }
        for (int k = 0; k < 4; k++) {
            ask(all, calls, "led", k, 0, true, 1);
            ask(all, calls, "led", 0, k, true, 2);
            ask(all, calls, "led", k, 3, false, 6);
            ask(all, calls, "off", 0, k);
        }
        if (calls.x.look(0) < 24) {
            // With all BOYS and five in ROW that takes long.
            ask(all, calls, "parts", 0, 3, 1);
        }
        ask(all, calls, "cut", 1);
        ask(all, calls, "fault", 0);
        ask(all, calls, "fault", 1);
        // Each byte less is one that was there.
        for (int n = 500; n >= 0; n -= 20) {
            ask(all, calls, "end", n);
        }
        ask(all, calls, "state", 0);
        ask(all, calls, "image", false);
        ask(all, calls, "look", 2);
        return all.stream().mapToLong(v -> v).toArray();
    }

    private static void ask(List<Long> all, Calls calls, String name, Object... told) {
        all.add(calls.ofClass(name, told));
    }
}
