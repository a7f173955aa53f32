import java.nio.charset.StandardCharsets;
import java.util.Arrays;
import java.util.List;
import java.util.Random;

/** Long runs of calls, alike in every run of this test, on the class and on the model of the document. */
public final class ModelTest {
    private static final int RUNS = 400;
    private static final int CALLS = 512;

    private final Random random;
    private final TwoCamps x = new TwoCamps();
    private final Model m = new Model();
    private final Checks checks;
    private final int run;
    private final int boys;
    private int calls;

    private ModelTest(int run, Checks checks) {
        this.run = run;
        this.checks = checks;
        random = new Random(run * 7919L);
        // Many a run is of few BOYS, so that the model is fast; some are of all 24.
        boys = run % 8 == 0 ? 24 : 2 + random.nextInt(9);
    }

    public static void main(String[] args) {
        Checks checks = new Checks();
        for (int run = 0; run < RUNS; run++) {
            ModelTest test = new ModelTest(run, checks);
            test.begin();
            while (test.calls < CALLS) {
                test.callAny();
            }
        }
        checks.end("ModelTest");
    }

    private void due(String call, long got, long want) {
        calls++;
        checks.due("run " + run + ", call " + calls + ", " + call, got, want);
    }

    private void due(String call, boolean got, boolean want) {
        due(call, got ? 1 : 0, want ? 1 : 0);
    }

    private void begin() {
        int mostLot = random.nextInt(4) == 0 ? 9 : 5;
        for (int i = 0; i < boys; i++) {
            int lot = random.nextInt(10) < mostLot ? 0 : 1;
            int strength = random.nextInt(10);
            due("boy", x.boy(lot, strength), m.boy(lot, strength));
            int v = random.nextInt(100);
            due("number", x.number(i, v), m.number(i, v));
        }
        for (int k = 0; k < boys * 3; k++) {
            tellLike();
            tellKnew();
        }
        for (int k = 0; k < 3; k++) {
            tellText(0, k, lawText());
        }
        tellText(1, 0, planText());
        tellText(1, 1, planText());
    }

    /** Mostly within the bounds, now and then a little or far outside. */
    private int near(int least, int most) {
        switch (random.nextInt(24)) {
            case 0:
                return least - 1;
            case 1:
                return most + 1;
            case 2:
                return random.nextInt();
            default:
                return least + random.nextInt(most - least + 1);
        }
    }

    private void tellLike() {
        int i = near(0, boys - 1);
        int j = near(0, boys - 1);
        int v = near(-50, 50);
        due("like(" + i + ", " + j + ", " + v + ")", x.like(i, j, v), m.like(i, j, v));
    }

    private void tellKnew() {
        int i = near(0, boys - 1);
        int j = near(0, boys - 1);
        boolean is = random.nextInt(3) > 0;
        due("knew(" + i + ", " + j + ", " + is + ")", x.knew(i, j, is), m.knew(i, j, is));
    }

    private void tellText(int sort, int k, String text) {
        byte[] bytes = text.getBytes(StandardCharsets.ISO_8859_1);
        int length = Math.min(500, bytes.length);
        for (int at = 0; at < length; at += 20) {
            int[] f = Checks.fiveOf(Arrays.copyOfRange(bytes, at, at + 20));
            due("feed", x.feed(f[0], f[1], f[2], f[3], f[4]), m.feed(f));
        }
        due("end(" + length + ")", x.end(length), m.end(length));
        due("text(" + sort + ", " + k + ") of " + text, x.text(sort, k), m.text(sort, k));
        due("fault(0) of " + text, x.fault(0), m.fault(0));
        due("fault(1) of " + text, x.fault(1), m.fault(1));
    }

    private String lawText() {
        StringBuilder s = new StringBuilder();
        int lines = random.nextInt(30) == 0 ? 17 : 1 + random.nextInt(9);
        for (int k = 0; k < lines; k++) {
            String word = random.nextInt(3) == 0 ? "add" : Model.LAW_WORDS.get(random.nextInt(6));
            s.append(word).append(' ');
            int mild = random.nextInt(3);
            s.append(mild == 0 ? sum(2) : mild == 1 ? random.nextInt(9) + "-" + random.nextInt(9) : fact());
            if (random.nextInt(3) > 0) {
                s.append(" when ").append(choice(0));
            }
            s.append(random.nextInt(3) == 0 ? ";\n" : ";");
        }
        return spoilt(s);
    }

    private String planText() {
        StringBuilder s = new StringBuilder();
        int lines = random.nextInt(30) == 0 ? 25 : random.nextInt(12);
        for (int k = 0; k < lines; k++) {
            String word = Model.PLAN_WORDS.get(random.nextInt(5));
            s.append(word);
            if (word.equals("against")) {
                s.append(' ').append(random.nextInt(random.nextInt(20) == 0 ? 12 : 10));
            } else if (word.equals("stir")) {
                s.append(' ').append(random.nextInt(random.nextInt(20) == 0 ? 3 : 2));
            }
            s.append(';');
        }
        return spoilt(s);
    }

    /** Now and then a sign is put in, left out or changed, so that FAULTS come too. */
    private String spoilt(StringBuilder s) {
        for (int k = random.nextInt(8) - 5; k > 0 && s.length() > 0; k--) {
            int at = random.nextInt(s.length());
            char sign = ";+-*/()<=> \n09aZwhen?\t".charAt(random.nextInt(22));
            switch (random.nextInt(3)) {
                case 0:
                    s.insert(at, sign);
                    break;
                case 1:
                    s.deleteCharAt(at);
                    break;
                default:
                    s.setCharAt(at, sign);
            }
        }
        return s.toString();
    }

    private String fact() {
        return Model.FACTS[random.nextInt(Model.FACTS.length)];
    }

    private String unit() {
        return random.nextInt(5) < 3 ? fact() : "" + random.nextInt(random.nextInt(10) == 0 ? 10001 : 60);
    }

    private String sum(int most) {
        StringBuilder s = new StringBuilder(unit());
        for (int k = random.nextInt(most + 1); k > 0; k--) {
            switch (random.nextInt(5)) {
                case 0:
                    s.append(" + ").append(unit());
                    break;
                case 1:
                    s.append('*').append(unit());
                    break;
                case 2:
                    s.append('/').append(random.nextInt(15) == 0 ? unit() : "" + (1 + random.nextInt(40)));
                    break;
                default:
                    s.append('-').append(unit());
            }
        }
        return s.toString();
    }

    private String choice(int open) {
        StringBuilder s = new StringBuilder(claim(open));
        for (int k = random.nextInt(5) - 2; k > 0; k--) {
            s.append(random.nextBoolean() ? " and " : " or ").append(claim(open));
        }
        return s.toString();
    }

    private String claim(int open) {
        if (open < 10 && random.nextInt(12 - (run % 5 == 0 ? open : 0)) < 3) {
            return random.nextBoolean() ? "not " + claim(open + 1) : "(" + choice(open + 1) + ")";
        }
        return sum(1) + "<=>".charAt(random.nextInt(3)) + sum(1);
    }

    private void callAny() {
        int pick = random.nextInt(100);
        if (pick < 18) {
            go();
        } else if (pick < 55) {
            askNow();
        } else if (pick < 85) {
            askThought();
        } else {
            tellMore();
        }
    }

    private void go() {
        int pick = random.nextInt(20);
        if (pick == 0) {
            int k = near(0, 3);
            due("plan(" + k + ")", x.plan(k), m.plan(k));
        } else if (pick < 8) {
            int kind = near(0, 3);
            int prize = kind == 1 || random.nextInt(9) == 0 ? near(0, 9) : 0;
            int wronged = near(-1, 1);
            due("day(" + kind + ", " + prize + ", " + wronged + ")", x.day(kind, prize, wronged),
                    m.day(kind, prize, wronged));
        } else if (pick < 12) {
            boolean taking = random.nextInt(4) == 0;
            due("image(" + taking + ")", x.image(taking), m.image(taking));
        } else {
            int law = near(0, 3);
            due("force(" + law + ")", x.force(law), m.force(law));
        }
    }

    private void askNow() {
        int i = near(0, boys - 1);
        int j = near(0, boys - 1);
        switch (random.nextInt(9)) {
            case 0:
            case 1:
                int what = random.nextInt(3) == 0 ? 100 + j : near(0, 11);
                due("of(" + i + ", " + what + ")", x.of(i, what), m.of(i, what));
                break;
            case 2:
                int lot = near(0, 1);
                int of = near(0, 8);
                due("lot(" + lot + ", " + of + ")", x.lot(lot, of), m.lot(lot, of));
                break;
            case 3:
                int day = near(1, Math.max(1, m.now.days));
                int kept = near(0, 7);
                due("kept(" + day + ", " + kept + ")", x.kept(day, kept), m.kept(day, kept));
                break;
            case 4:
                int n = near(0, 999);
                due("beans(" + i + ", " + j + ", " + n + ")", x.beans(i, j, n), m.beans(i, j, n));
                break;
            case 5:
                int beans = near(0, 999);
                int seen = near(0, 2);
                due("seen(" + beans + ", " + seen + ")", x.seen(beans, seen), m.seen(beans, seen));
                break;
            case 6:
                int cut = near(0, 2);
                if (m.look(1) <= 16 || random.nextInt(60) == 0) {
                    due("cut(" + cut + ")", x.cut(cut), m.cut(cut));
                }
                break;
            case 7:
                int k = near(0, 9);
                int one = random.nextBoolean() ? near(2, 100000) : near(2, 60);
                due("woods(" + k + ", " + one + ")", x.woods(k, one), m.woods(k, one));
                break;
            default:
                int look = near(0, 7);
                due("look(" + look + ")", x.look(look), m.look(look));
        }
    }

    private void askThought() {
        int plan = near(0, 3);
        int law = near(0, 3);
        switch (random.nextInt(7)) {
            case 0:
            case 1:
                boolean stirred = random.nextBoolean();
                int what = near(0, 6);
                due("led(" + plan + ", " + law + ", " + stirred + ", " + what + ")", x.led(plan, law, stirred, what),
                        m.led(plan, law, stirred, what));
                break;
            case 2:
                int apart = near(0, 9);
                due("least(" + law + ", " + apart + ")", x.least(law, apart), m.least(law, apart));
                break;
            case 3:
                due("back(" + law + ")", x.back(law), m.back(law));
                break;
            case 4:
                due("off(" + plan + ", " + law + ")", x.off(plan, law), m.off(plan, law));
                break;
            case 5:
                due("fitting(" + plan + ")", x.fitting(plan), m.fitting(plan));
                break;
            default:
                int other = near(0, 3);
                int part = near(0, Math.max(1, m.look(7)));
                if (m.look(7) < 4 && boys < 12 || random.nextInt(boys < 12 ? 6 : 40) == 0) {
                    due("parts(" + law + ", " + other + ", " + part + ")", x.parts(law, other, part),
                            m.parts(law, other, part));
                }
        }
    }

    private void tellMore() {
        switch (random.nextInt(9)) {
            case 0:
                tellLike();
                break;
            case 1:
                tellKnew();
                break;
            case 2:
                int v = random.nextInt(4) == 0 ? 0 : random.nextInt();
                due("state", x.state(v), m.state(v));
                break;
            case 3:
                int kind = near(-1, 3);
                due("row(" + kind + ")", x.row(kind), m.row(kind));
                break;
            case 4:
                int n = random.nextBoolean() ? near(1, 24) : near(1, 6);
                int cross = random.nextInt(6) == 0 ? -100 : near(-50, 50);
                due("told(" + n + ", " + cross + ")", x.told(n, cross), m.told(n, cross));
                break;
            case 5:
                int boy = near(0, boys - 1);
                int number = near(0, 99);
                due("number(" + boy + ", " + number + ")", x.number(boy, number), m.number(boy, number));
                break;
            case 6:
                tellText(0, near(0, 3), lawText());
                break;
            case 7:
                tellText(near(0, 1), near(0, 3), planText());
                break;
            default:
                int end = near(0, 20);
                due("feed", x.feed(end, 0, 1, 2, 3), m.feed(end, 0, 1, 2, 3));
                due("end(" + end + ")", x.end(end), m.end(end));
                if (random.nextBoolean()) {
                    due("end(0)", x.end(0), m.end(0));
                }
        }
    }
}
