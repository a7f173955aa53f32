import java.math.BigInteger;
import java.util.ArrayList;
import java.util.Arrays;
import java.util.List;

/** The document said again, another way: slow, with trees and lists, to hold the class against. */
final class Model {
    static final int NONE = -1;
    static final String[] FACTS = {"kind", "prize", "day", "same", "knew", "won", "lost", "wronged", "like", "back",
        "strong", "own", "across", "size"};
    static final List<String> LAW_WORDS = List.of("add", "fight", "home", "name", "see", "slip");
    static final List<String> PLAN_WORDS = List.of("apart", "against", "beside", "together", "stir");

    interface Expr {
        int at(int[] facts);
    }

    record Line(String word, Expr tells, Expr when) { }

    record Step(String word, int number) { }

    @SuppressWarnings("serial")
    static final class Fault extends RuntimeException {
        final int why;
        final int place;

        Fault(int why, int place) {
            this.why = why;
            this.place = place;
        }
    }

    /** Reads with one token ahead; a word that is none comes as "?". */
    static final class Parser {
        final String text;
        int place;
        int behind;
        String token;

        Parser(String text) {
            this.text = text;
            next();
        }

        void next() {
            place = behind;
            while (place < text.length() && (text.charAt(place) == ' ' || text.charAt(place) == '\n')) {
                place++;
            }
            String rest = text.substring(place);
            if (rest.isEmpty()) {
                token = "";
                return;
            }
            int n = run(rest, "[A-Za-z]+");
            if (n == 0) {
                n = run(rest, "[0-9]+");
            }
            if (n == 0) {
                n = 1;
            }
            token = rest.substring(0, n);
            behind = place + n;
        }

        static int run(String rest, String pattern) {
            var m = java.util.regex.Pattern.compile(pattern).matcher(rest);
            return m.lookingAt() ? m.end() : 0;
        }

        Fault fault(int why) {
            return new Fault(why, place);
        }

        void want(String sign) {
            if (!token.equals(sign)) {
                throw fault(1);
            }
            next();
        }

        boolean isNumber() {
            return token.matches("[0-9]{1,4}");
        }

        int number(int least, int most) {
            if (!isNumber()) {
                throw fault(1);
            }
            int n = Integer.parseInt(token);
            if (n < least || n > most) {
                throw fault(2);
            }
            next();
            return n;
        }

        List<Line> law() {
            List<Line> lines = new ArrayList<>();
            while (!token.isEmpty()) {
                String word = token;
                if (!LAW_WORDS.contains(word)) {
                    throw fault(1);
                }
                if (lines.size() == 16) {
                    throw fault(3);
                }
                next();
                Expr e = sum();
                Expr when = null;
                if (token.equals("when")) {
                    next();
                    when = or(0);
                }
                want(";");
                lines.add(new Line(word, e, when));
            }
            return lines;
        }

        List<Step> plan() {
            List<Step> steps = new ArrayList<>();
            while (!token.isEmpty()) {
                String word = token;
                if (!PLAN_WORDS.contains(word)) {
                    throw fault(1);
                }
                if (steps.size() == 24) {
                    throw fault(3);
                }
                next();
                int n = 0;
                if (word.equals("against")) {
                    n = number(0, 9);
                } else if (word.equals("stir")) {
                    n = number(0, 1);
                }
                want(";");
                steps.add(new Step(word, n));
            }
            return steps;
        }

        Expr or(int open) {
            Expr left = and(open);
            while (token.equals("or")) {
                next();
                Expr l = left;
                Expr r = and(open);
                left = f -> l.at(f) != 0 || r.at(f) != 0 ? 1 : 0;
            }
            return left;
        }

        Expr and(int open) {
            Expr left = claim(open);
            while (token.equals("and")) {
                next();
                Expr l = left;
                Expr r = claim(open);
                left = f -> l.at(f) != 0 && r.at(f) != 0 ? 1 : 0;
            }
            return left;
        }

        Expr claim(int open) {
            if (token.equals("not") || token.equals("(")) {
                if (open == 8) {
                    throw fault(3);
                }
                boolean not = token.equals("not");
                next();
                if (not) {
                    Expr c = claim(open + 1);
                    return f -> c.at(f) == 0 ? 1 : 0;
                }
                Expr b = or(open + 1);
                want(")");
                return b;
            }
            Expr l = sum();
            String sign = token;
            if (!List.of("<", "=", ">").contains(sign)) {
                throw fault(1);
            }
            next();
            Expr r = sum();
            return f -> {
                int c = Integer.compare(l.at(f), r.at(f));
                return (sign.equals("<") ? c < 0 : sign.equals("=") ? c == 0 : c > 0) ? 1 : 0;
            };
        }

        Expr sum() {
            Expr left = product();
            while (token.equals("+") || token.equals("-")) {
                boolean plus = token.equals("+");
                next();
                Expr l = left;
                Expr r = product();
                left = f -> plus ? l.at(f) + r.at(f) : l.at(f) - r.at(f);
            }
            return left;
        }

        Expr product() {
            Expr left = unit();
            while (token.equals("*") || token.equals("/")) {
                boolean times = token.equals("*");
                next();
                Expr l = left;
                if (times) {
                    Expr r = unit();
                    left = f -> l.at(f) * r.at(f);
                } else {
                    int r = number(1, 9999);
                    left = f -> l.at(f) / r;
                }
            }
            return left;
        }

        Expr unit() {
            if (isNumber()) {
                int n = Integer.parseInt(token);
                next();
                return f -> n;
            }
            int k = Arrays.asList(FACTS).indexOf(token);
            if (k < 0) {
                throw fault(1);
            }
            next();
            return f -> f[k];
        }
    }

    static final class Boy {
        int lot;
        int strength;
        boolean there = true;
        boolean loyal = true;
        int number;
        int[] like = new int[24];
        boolean[] knew = new boolean[24];

        Boy copy() {
            Boy b = new Boy();
            b.lot = lot;
            b.strength = strength;
            b.there = there;
            b.loyal = loyal;
            b.number = number;
            b.like = like.clone();
            b.knew = knew.clone();
            return b;
        }
    }

    static final class World {
        List<Boy> boys = new ArrayList<>();
        List<int[]> kept = new ArrayList<>();
        int state;
        int days;
        int[] names = new int[2];
        int[] fought = new int[2];
        int[] heat = new int[2];
        int[] wins = new int[2];
        int[] wrongs = new int[2];
        int kind;
        int prize;
        int before;
        int won = NONE;
        int wronged = NONE;
        List<List<Line>> laws = new ArrayList<>(List.of(List.of(), List.of(), List.of(), List.of()));
        List<List<Step>> plans = new ArrayList<>(List.of(List.of(), List.of(), List.of(), List.of()));
        int inForce;
        List<Integer> row = new ArrayList<>();
        Integer[] crosses = new Integer[25];

        World copy() {
            World w = new World();
            for (Boy b : boys) {
                w.boys.add(b.copy());
            }
            w.kept.addAll(kept);
            w.state = state;
            w.days = days;
            w.names = names.clone();
            w.fought = fought.clone();
            w.heat = heat.clone();
            w.wins = wins.clone();
            w.wrongs = wrongs.clone();
            w.kind = kind;
            w.prize = prize;
            w.before = before;
            w.won = won;
            w.wronged = wronged;
            w.laws = new ArrayList<>(laws);
            w.plans = new ArrayList<>(plans);
            w.inForce = inForce;
            w.row = new ArrayList<>(row);
            w.crosses = crosses.clone();
            return w;
        }

        int draw(int m) {
            state = 1664525 * state + 1013904223;
            return (int) ((state & 0xffffffffL) / 256) % m;
        }

        List<Integer> there(int lot) {
            List<Integer> list = new ArrayList<>();
            for (int i = 0; i < boys.size(); i++) {
                if (boys.get(i).there && (lot == NONE || boys.get(i).lot == lot)) {
                    list.add(i);
                }
            }
            return list;
        }

        int mean(List<Integer> from, List<Integer> to) {
            List<Integer> all = new ArrayList<>();
            for (int i : from) {
                for (int j : to) {
                    if (i != j) {
                        all.add(boys.get(i).like[j]);
                    }
                }
            }
            return meanOf(all);
        }

        static int meanOf(List<Integer> all) {
            long sum = 0;
            for (int v : all) {
                sum += v;
            }
            return all.isEmpty() ? 0 : (int) Math.floor((double) sum / all.size());
        }

        int own(int lot) {
            return mean(there(lot), there(lot));
        }

        int across(int lot) {
            return mean(there(lot), there(1 - lot));
        }

        int cross() {
            List<Integer> all = new ArrayList<>();
            for (int i : there(0)) {
                for (int j : there(1)) {
                    all.add(boys.get(i).like[j]);
                    all.add(boys.get(j).like[i]);
                }
            }
            return meanOf(all);
        }

        int[] dayFacts(int lot) {
            int[] f = new int[14];
            f[0] = kind;
            f[1] = prize;
            f[2] = before;
            f[5] = won == lot ? 1 : 0;
            f[6] = won != NONE && won != lot ? 1 : 0;
            f[7] = wronged == lot ? 1 : 0;
            return f;
        }

        int[] coupleFacts(int i, int j) {
            Boy a = boys.get(i);
            Boy b = boys.get(j);
            int[] f = dayFacts(a.lot);
            f[3] = a.lot == b.lot ? 1 : 0;
            f[4] = a.knew[j] ? 1 : 0;
            f[8] = a.like[j];
            f[9] = b.like[i];
            f[10] = b.strength;
            return f;
        }

        int[] lotFacts(int lot) {
            int[] f = dayFacts(lot);
            f[11] = own(lot);
            f[12] = across(lot);
            f[13] = there(lot).size();
            return f;
        }

        int[] boyFacts(int i) {
            int lot = boys.get(i).lot;
            int[] f = dayFacts(lot);
            f[8] = mean(List.of(i), there(lot));
            f[10] = boys.get(i).strength;
            f[11] = mean(there(lot), List.of(i));
            f[12] = mean(there(1 - lot), List.of(i));
            f[13] = there(lot).size();
            return f;
        }

        static Integer tells(List<Line> law, String word, int[] facts) {
            for (Line l : law) {
                if (l.word.equals(word) && (l.when == null || l.when.at(facts) != 0)) {
                    return l.tells.at(facts);
                }
            }
            return null;
        }

        static int told(List<Line> law, String word, int[] facts) {
            Integer t = tells(law, word, facts);
            return t == null ? 0 : t;
        }

        /** The FIGHTING LOTS as a set. */
        int goBy(List<Line> law, int kind, int prize, int wronged) {
            this.kind = kind;
            this.prize = prize;
            this.wronged = wronged;
            before = days;
            won = NONE;
            if (wronged != NONE) {
                wrongs[wronged]++;
            }
            if (kind == 1) {
                int[] score = new int[2];
                for (int lot = 0; lot < 2; lot++) {
                    for (int i : there(lot)) {
                        score[lot] += boys.get(i).strength;
                    }
                    score[lot] += Math.floorDiv(own(lot), 5) + draw(10);
                }
                if (score[0] != score[1]) {
                    won = score[0] > score[1] ? 0 : 1;
                    wins[won]++;
                }
            }
            int[][] more = new int[24][24];
            for (int i : there(NONE)) {
                for (int j : there(NONE)) {
                    more[i][j] = i == j ? 0 : told(law, "add", coupleFacts(i, j));
                }
            }
            for (int i : there(NONE)) {
                for (int j : there(NONE)) {
                    long v = (long) boys.get(i).like[j] + more[i][j];
                    boys.get(i).like[j] = (int) Math.max(-50, Math.min(50, v));
                }
            }
            int fights = 0;
            for (int lot = 0; lot < 2; lot++) {
                int h = told(law, "fight", lotFacts(lot));
                if (h > 0) {
                    fights += lot + 1;
                    fought[lot]++;
                    heat[lot] += Math.min(999, h);
                }
            }
            List<Integer> gone = new ArrayList<>();
            for (int i : there(NONE)) {
                if (told(law, "home", boyFacts(i)) > 0) {
                    gone.add(i);
                }
            }
            for (int i : gone) {
                boys.get(i).there = false;
            }
            for (int lot = 0; lot < 2; lot++) {
                if (names[lot] == 0 && told(law, "name", lotFacts(lot)) > 0) {
                    names[lot] = days + 1;
                }
            }
            for (int i : there(NONE)) {
                if (friendsAcross(law, i) == 0) {
                    boys.get(i).loyal = false;
                }
            }
            days++;
            kept.add(new int[] {own(0), own(1), across(0), across(1), won, fights, there(NONE).size(), kind});
            return fights;
        }

        List<Integer> friends(List<Line> law, int i) {
            List<Integer> others = new ArrayList<>();
            if (!boys.get(i).there) {
                return others;
            }
            int[] worth = new int[24];
            for (int j : there(NONE)) {
                if (j != i) {
                    Integer t = tells(law, "slip", coupleFacts(i, j));
                    worth[j] = t == null ? boys.get(i).like[j] : t;
                    others.add(j);
                }
            }
            others.sort((a, b) -> worth[a] != worth[b] ? Integer.compare(worth[b], worth[a]) : a - b);
            return others.subList(0, Math.min(3, others.size()));
        }

        int friendsAcross(List<Line> law, int i) {
            int n = 0;
            for (int j : friends(law, i)) {
                n += boys.get(j).lot != boys.get(i).lot ? 1 : 0;
            }
            return n;
        }

        int beans(List<Line> law, int i, int j, int n) {
            long b = (long) n + told(law, "see", coupleFacts(i, j));
            return (int) Math.max(0, Math.min(9999, b));
        }
    }

    World now = new World();
    World taken;
    StringBuilder tape = new StringBuilder();
    int fault;
    int place = NONE;

    static boolean in(int v, int least, int most) {
        return v >= least && v <= most;
    }

    boolean isBoy(int i) {
        return in(i, 0, now.boys.size() - 1);
    }

    List<Line> force() {
        return now.laws.get(now.inForce);
    }

    int boy(int lot, int strength) {
        if (!in(lot, 0, 1) || !in(strength, 0, 9) || now.boys.size() == 24 || now.days > 0) {
            return NONE;
        }
        Boy b = new Boy();
        b.lot = lot;
        b.strength = strength;
        now.boys.add(b);
        return now.boys.size() - 1;
    }

    boolean like(int i, int j, int v) {
        if (!isBoy(i) || !isBoy(j) || i == j || !in(v, -50, 50)) {
            return false;
        }
        now.boys.get(i).like[j] = v;
        return true;
    }

    boolean knew(int i, int j, boolean is) {
        if (!isBoy(i) || !isBoy(j) || i == j) {
            return false;
        }
        now.boys.get(i).knew[j] = is;
        now.boys.get(j).knew[i] = is;
        return true;
    }

    int state(int v) {
        int was = now.state;
        now.state = v;
        return was;
    }

    int feed(int... five) {
        if (tape.length() > 480) {
            return NONE;
        }
        for (int v : five) {
            for (int s = 24; s >= 0; s -= 8) {
                tape.append((char) (v >> s & 255));
            }
        }
        return tape.length();
    }

    boolean end(int n) {
        if (!in(n, 0, tape.length())) {
            return false;
        }
        tape.setLength(n);
        return true;
    }

    int text(int sort, int k) {
        String text = tape.toString();
        tape.setLength(0);
        fault = 0;
        place = NONE;
        if (!in(sort, 0, 1) || !in(k, 0, 3)) {
            return NONE;
        }
        try {
            if (sort == 0) {
                now.laws.set(k, new Parser(text).law());
                return now.laws.get(k).size();
            }
            now.plans.set(k, new Parser(text).plan());
            return now.plans.get(k).size();
        } catch (Fault f) {
            fault = f.why;
            place = f.place;
            return NONE;
        }
    }

    int fault(int what) {
        return what == 0 ? fault : what == 1 ? place : NONE;
    }

    int force(int law) {
        if (!in(law, 0, 3)) {
            return NONE;
        }
        int was = now.inForce;
        now.inForce = law;
        return was;
    }

    int day(int kind, int prize, int wronged) {
        if (!in(kind, 0, 3) || !in(prize, 0, 9) || prize > 0 && kind != 1 || !in(wronged, NONE, 1) || now.days == 60) {
            return NONE;
        }
        return Integer.bitCount(now.goBy(force(), kind, prize, wronged));
    }

    int plan(int k) {
        return in(k, 0, 3) ? lead(now, k, force(), true)[6] : NONE;
    }

    int of(int boy, int what) {
        if (!isBoy(boy)) {
            return -100;
        }
        Boy b = now.boys.get(boy);
        List<Integer> friends = now.friends(force(), boy);
        if (what >= 100) {
            return isBoy(what - 100) && what - 100 != boy ? b.like[what - 100] : -100;
        }
        switch (what) {
            case 0: return b.lot;
            case 1: return b.strength;
            case 2: return b.there ? 1 : 0;
            case 3: case 4: case 5: return what - 3 < friends.size() ? friends.get(what - 3) : NONE;
            case 6: return now.friendsAcross(force(), boy);
            case 7: return b.loyal ? 1 : 0;
            case 8: {
                int n = 0;
                for (int i = 0; i < now.boys.size(); i++) {
                    n += now.friends(force(), i).contains(boy) ? 1 : 0;
                }
                return n;
            }
            case 9: return now.boyFacts(boy)[11];
            case 10: return now.boyFacts(boy)[12];
            case 11: return now.boyFacts(boy)[8];
            default: return -100;
        }
    }

    int lot(int lot, int what) {
        if (!in(lot, 0, 1)) {
            return -100;
        }
        switch (what) {
            case 0: return now.there(lot).size();
            case 1: return now.own(lot);
            case 2: return now.across(lot);
            case 3: return now.names[lot];
            case 4: return now.fought[lot];
            case 5: return now.heat[lot];
            case 6: return now.wins[lot];
            case 7: {
                int n = 0;
                for (int i : now.there(lot)) {
                    n += now.friendsAcross(force(), i);
                }
                return n;
            }
            case 8: return now.wrongs[lot];
            default: return -100;
        }
    }

    int kept(int day, int what) {
        return in(day, 1, now.days) && in(what, 0, 7) ? now.kept.get(day - 1)[what] : -100;
    }

    int beans(int i, int j, int n) {
        if (!isBoy(i) || !isBoy(j) || i == j || !in(n, 0, 999) || !now.boys.get(i).there || !now.boys.get(j).there) {
            return NONE;
        }
        return now.beans(force(), i, j, n);
    }

    int seen(int n, int what) {
        if (!in(n, 0, 999) || !in(what, 0, 2)) {
            return -10000;
        }
        if (what == 2) {
            return seen(n, 0) - seen(n, 1);
        }
        List<Integer> all = new ArrayList<>();
        for (int i : now.there(NONE)) {
            int lot = now.boys.get(i).lot;
            for (int j : now.there(what == 0 ? lot : 1 - lot)) {
                if (i != j) {
                    all.add(now.beans(force(), i, j, n));
                }
            }
        }
        return World.meanOf(all);
    }

    /** FIGHTS, HEAT, CROSS, GONE, first DAY, NAMES, DAYS, OFF. */
    int[] lead(World w, int plan, List<Line> law, boolean stirred) {
        int[] all = new int[8];
        int heat = w.heat[0] + w.heat[1];
        int gone = w.there(NONE).size();
        int names = (w.names[0] > 0 ? 1 : 0) + (w.names[1] > 0 ? 1 : 0);
        all[4] = NONE;
        int next = NONE;
        for (Step s : now.plans.get(plan)) {
            if (s.word.equals("stir")) {
                next = stirred ? s.number : NONE;
                continue;
            }
            if (w.days == 60) {
                break;
            }
            int fights = Integer.bitCount(w.goBy(law, PLAN_WORDS.indexOf(s.word), s.number, next));
            next = NONE;
            all[6]++;
            all[0] += fights;
            if (fights > 0 && all[4] == NONE) {
                all[4] = all[6];
            }
            if (now.crosses[all[6]] != null) {
                all[7] += Math.abs(now.crosses[all[6]] - w.cross());
            }
        }
        all[1] = w.heat[0] + w.heat[1] - heat;
        all[2] = w.cross();
        all[3] = gone - w.there(NONE).size();
        all[5] = (w.names[0] > 0 ? 1 : 0) + (w.names[1] > 0 ? 1 : 0) - names;
        return all;
    }

    int led(int plan, int law, boolean stirred, int what) {
        if (!in(plan, 0, 3) || !in(law, 0, 3) || !in(what, 0, 6)) {
            return -100;
        }
        return lead(now.copy(), plan, now.laws.get(law), stirred)[what];
    }

    int least(int law, int apart) {
        if (!in(law, 0, 3) || !in(apart, 0, 9)) {
            return NONE;
        }
        World w = now.copy();
        for (int d = 0; d < apart; d++) {
            w.goBy(now.laws.get(law), 0, 0, NONE);
        }
        for (int n = 1; n <= 20; n++) {
            if (w.goBy(now.laws.get(law), 1, 5, NONE) > 0) {
                return n;
            }
        }
        return NONE;
    }

    int back(int law) {
        if (!in(law, 0, 3)) {
            return NONE;
        }
        World w = now.copy();
        for (int n = 0; n <= 30; n++) {
            if (w.cross() >= 0) {
                return n;
            }
            w.goBy(now.laws.get(law), 3, 0, NONE);
        }
        return NONE;
    }

    int row(int kind) {
        if (kind == NONE) {
            now.row.clear();
            return 0;
        }
        if (!in(kind, 0, 3) || now.row.size() == 5) {
            return -2;
        }
        now.row.add(kind);
        return now.row.size();
    }

    static void orders(List<Integer> ahead, int n, List<List<Integer>> all) {
        if (ahead.size() == n) {
            all.add(new ArrayList<>(ahead));
        }
        for (int p = 0; p < n; p++) {
            if (!ahead.contains(p)) {
                ahead.add(p);
                orders(ahead, n, all);
                ahead.remove(ahead.size() - 1);
            }
        }
    }

    int crossBy(List<Line> law, List<Integer> order) {
        World w = now.copy();
        for (int p : order) {
            if (w.days < 60) {
                int kind = now.row.get(p);
                w.goBy(law, kind, kind == 1 ? 5 : 0, NONE);
            }
        }
        return w.cross();
    }

    int parts(int a, int b, int what) {
        if (!in(a, 0, 3) || !in(b, 0, 3) || !in(what, 0, now.row.size())) {
            return NONE;
        }
        List<List<Integer>> all = new ArrayList<>();
        orders(new ArrayList<>(), now.row.size(), all);
        int far = NONE;
        List<Integer> best = null;
        for (List<Integer> order : all) {
            int apart = Math.abs(crossBy(now.laws.get(a), order) - crossBy(now.laws.get(b), order));
            if (apart > far) {
                far = apart;
                best = order;
            }
        }
        return what == 0 ? far : best.get(what - 1);
    }

    boolean told(int n, int v) {
        if (!in(n, 1, 24) || !in(v, -50, 50) && v != -100) {
            return false;
        }
        now.crosses[n] = v == -100 ? null : v;
        return true;
    }

    int off(int plan, int law) {
        return in(plan, 0, 3) && in(law, 0, 3) ? lead(now.copy(), plan, now.laws.get(law), true)[7] : NONE;
    }

    int fitting(int plan) {
        if (!in(plan, 0, 3)) {
            return NONE;
        }
        int best = 0;
        for (int k = 1; k < 4; k++) {
            if (off(plan, k) < off(plan, best)) {
                best = k;
            }
        }
        return best;
    }

    boolean number(int boy, int v) {
        if (!isBoy(boy) || !in(v, 0, 99)) {
            return false;
        }
        now.boys.get(boy).number = v;
        return true;
    }

    int cut(int what) {
        if (!in(what, 0, 2)) {
            return NONE;
        }
        List<Integer> there = now.there(NONE);
        int chosen = now.there(0).size();
        int sum = 0;
        for (int i : now.there(0)) {
            sum += now.boys.get(i).number;
        }
        long all = 0;
        long great = 0;
        for (int set = 0; set < 1 << there.size(); set++) {
            if (Integer.bitCount(set) == chosen) {
                int s = 0;
                for (int k = 0; k < there.size(); k++) {
                    s += (set >> k & 1) == 1 ? now.boys.get(there.get(k)).number : 0;
                }
                all++;
                great += s >= sum ? 1 : 0;
            }
        }
        return (int) (what == 0 ? great : what == 1 ? all : great * 1000 / all);
    }

    int woods(int k, int m) {
        if (!in(k, 0, 9) || !in(m, 2, 100000)) {
            return NONE;
        }
        for (int n = 1; n <= 60; n++) {
            BigInteger ways = BigInteger.ZERO;
            for (int i = 0; i <= Math.min(k, n); i++) {
                BigInteger c = BigInteger.ONE;
                for (int t = 1; t <= i; t++) {
                    c = c.multiply(BigInteger.valueOf(n - t + 1)).divide(BigInteger.valueOf(t));
                }
                ways = ways.add(c);
            }
            if (ways.multiply(BigInteger.valueOf(m)).compareTo(BigInteger.TWO.pow(n)) < 0) {
                return n;
            }
        }
        return NONE;
    }

    boolean image(boolean taking) {
        if (taking) {
            taken = now.copy();
        } else if (taken != null) {
            now = taken.copy();
        }
        return taken != null;
    }

    int look(int what) {
        switch (what) {
            case 0: return now.boys.size();
            case 1: return now.there(NONE).size();
            case 2: return now.days;
            case 3: return now.cross();
            case 4: return now.inForce;
            case 5: return now.fought[0] + now.fought[1];
            case 6: return (int) now.boys.stream().filter(b -> b.loyal).count();
            case 7: return now.row.size();
            default: return -100;
        }
    }
}
