import java.util.Arrays;

/** Two camps of boys in one wood. DOC.md tells what each call does; words in capitals are its words. */
public final class TwoCamps {
    public static final int NONE = -1;

    // What is answered where NONE could be a LIKE, or another true answer.
    private static final int NO_SUCH = NONE - 99;

    private static final int MOST_BOYS = 24;
    private static final int MOST_STRENGTH = 9;
    private static final int MOST_LIKE = 50;
    private static final int MOST_DAYS = 60;
    private static final int MOST_PRIZE = 9;
    private static final int LOTS = 2;
    private static final int FRIENDS = 3;

    private static final int APART = 0;
    private static final int AGAINST = 1;
    private static final int TOGETHER = 3;
    private static final int THOUGHT_PRIZE = 5;

    private static final int TEXTS = 4;
    private static final int LAW_LINES = 16;
    private static final int PLAN_LINES = 24;
    private static final int MOST_TAPE = 500;
    private static final int FED = 20;

    private static final int MOST_ROW = 5;
    private static final int MOST_ORDERS = 120;
    private static final int UNTOLD = NONE - 99;
    private static final int KEPT_OF_DAY = 8;
    private static final int MOST_NUMBER = 99;
    private static final int MOST_BEANS = 9999;
    private static final int MOST_HEAT = 999;

    // What lot() tells of a LOT that was counted as the DAYS went by; the numbers are those of its "what".
    private static final int NAMED = 3;
    private static final int FOUGHT = 4;
    private static final int HEAT = 5;
    private static final int WINS = 6;
    private static final int WRONGS = 8;
    private static final int TALLIES = 9;

    // Tokens: a KEYWORD is one of these (a fact by its place among the facts), a sign its own number, above them.
    private static final int KIND = 0;
    private static final int PRIZE = 1;
    private static final int DAY = 2;
    private static final int SAME = 3;
    private static final int KNEW = 4;
    private static final int WON = 5;
    private static final int LOST = 6;
    private static final int WRONGED = 7;
    private static final int LIKE = 8;
    private static final int BACK = 9;
    private static final int STRONG = 10;
    private static final int OWN = 11;
    private static final int ACROSS = 12;
    private static final int SIZE = 13;
    private static final int ADD = 14;
    private static final int FIGHT = 15;
    private static final int HOME = 16;
    private static final int NAME = 17;
    private static final int SEE = 18;
    private static final int SLIP = 19;
    private static final int WHEN = 20;
    private static final int OR = 21;
    private static final int AND = 22;
    private static final int NOT = 23;
    private static final int APART_WORD = 24;
    private static final int AGAINST_WORD = 25;
    private static final int BESIDE_WORD = 26;
    private static final int TOGETHER_WORD = 27;
    private static final int STIR_WORD = 28;
    private static final int NUMBER = 100;
    private static final int END = 101;
    private static final int NOTHING = 102;
    private static final int FACTS = SIZE + 1;

    private static final int CANNOT_STAND = 1;
    private static final int TOO_GREAT = 2;
    private static final int TOO_MANY = 3;
    private static final int MOST_OPEN = 8;

    private final Tape tape = new Tape();
    private final Reader reader = new Reader(tape);
    private final Told now = new Told();
    private final Told taken = new Told();
    private final Course course = new Course();
    private final Slips slips = new Slips();
    private final Thought thought = new Thought(course);
    private final Cut cutting = new Cut();
    private boolean isTaken;

    public TwoCamps() {
        isTaken = false;
    }

    public int boy(int lot, int strength) {
        Wood wood = now.wood;
        boolean can = isLot(lot) && strength >= 0 && strength <= MOST_STRENGTH;
        if (!can || wood.boys >= MOST_BOYS || wood.days > 0) {
            return NONE;
        }
        return wood.join(lot, strength);
    }

    public boolean like(int i, int j, int v) {
        if (!now.wood.isCouple(i, j) || !isLike(v)) {
            return false;
        }
        now.wood.likes[i * MOST_BOYS + j] = v;
        return true;
    }

    public boolean knew(int i, int j, boolean is) {
        if (!now.wood.isCouple(i, j)) {
            return false;
        }
        now.wood.tellKnown(i, j, is);
        return true;
    }

    public int state(int v) {
        int was = now.wood.seed;
        now.wood.seed = v;
        return was;
    }

    public int feed(int a, int b, int c, int d, int e) {
        if (tape.length + FED > MOST_TAPE) {
            return NONE;
        }
        tape.add(a);
        tape.add(b);
        tape.add(c);
        tape.add(d);
        tape.add(e);
        return tape.length;
    }

    public boolean end(int n) {
        if (n < 0 || n > tape.length) {
            return false;
        }
        tape.length = n;
        return true;
    }

    public int text(int sort, int k) {
        reader.begin();
        int lines = NONE;
        if (sort == 0 && isText(k)) {
            lines = reader.readLaw(now.laws[k]);
        } else if (sort == 1 && isText(k)) {
            lines = reader.readPlan(now.plans[k]);
        }
        tape.length = 0;
        return lines;
    }

    public int fault(int what) {
        if (what == 0) {
            return reader.fault;
        }
        return what == 1 ? reader.faultPlace : NONE;
    }

    public int force(int law) {
        if (!isText(law)) {
            return NONE;
        }
        int was = now.inForce;
        now.inForce = law;
        return was;
    }

    public int day(int kind, int prize, int wronged) {
        boolean can = isKind(kind) && prize >= 0 && prize <= MOST_PRIZE && (kind == AGAINST || prize == 0)
                && (wronged == NONE || isLot(wronged));
        if (!can || now.wood.days >= MOST_DAYS) {
            return NONE;
        }
        return goThrough(kind, prize, wronged);
    }

    public int plan(int k) {
        if (!isText(k)) {
            return NONE;
        }
        Plan plan = now.plans[k];
        int gone = 0;
        for (int d = 0; d < plan.days && now.wood.days < MOST_DAYS; d++) {
            goThrough(plan.kinds[d], plan.prizes[d], plan.wrongs[d]);
            gone++;
        }
        return gone;
    }

    public int of(int boy, int what) {
        Wood wood = now.wood;
        if (!wood.isBoy(boy)) {
            return NO_SUCH;
        }
        if (what >= 100) {
            int other = what - 100;
            return wood.isCouple(boy, other) ? wood.likes[boy * MOST_BOYS + other] : NO_SUCH;
        }
        int lot = wood.lotOf(boy);
        switch (what) {
            case 0:
                return lot;
            case 1:
                return wood.strengths[boy];
            case 2:
                return has(wood.there, boy) ? 1 : 0;
            case 3:
            case 4:
            case 5:
            case 6:
            case 8:
                return ofFriends(boy, what);
            case 7:
                return has(wood.loyal, boy) ? 1 : 0;
            case 9:
                return wood.meanLike(wood.members(lot), 1 << boy);
            case 10:
                return wood.meanLike(wood.members(1 - lot), 1 << boy);
            case 11:
                return wood.meanLike(1 << boy, wood.members(lot));
            default:
                return NO_SUCH;
        }
    }

    public int lot(int lot, int what) {
        if (!isLot(lot)) {
            return NO_SUCH;
        }
        switch (what) {
            case 0:
                return now.wood.size(lot);
            case 1:
                return now.wood.own(lot);
            case 2:
                return now.wood.across(lot);
            case NAMED:
            case FOUGHT:
            case HEAT:
            case WINS:
            case WRONGS:
                return now.wood.tallies[what * LOTS + lot];
            case 7:
                return slips.acrossOfLot(now.wood, now.lawInForce(), lot);
            default:
                return NO_SUCH;
        }
    }

    public int kept(int day, int what) {
        boolean can = day >= 1 && day <= now.wood.days && day <= MOST_DAYS && what >= 0 && what < KEPT_OF_DAY;
        return can ? now.kept[(day - 1) * KEPT_OF_DAY + what] : NO_SUCH;
    }

    public int beans(int i, int j, int n) {
        Wood wood = now.wood;
        if (!wood.isCouple(i, j) || !has(wood.there, i) || !has(wood.there, j) || !isBeans(n)) {
            return NONE;
        }
        return slips.beansSeen(wood, now.lawInForce(), i, j, n);
    }

    public int seen(int n, int what) {
        if (!isBeans(n) || what < 0 || what > 2) {
            return NONE - 9999;
        }
        int own = what == 1 ? 0 : slips.meanSeen(now.wood, now.lawInForce(), n, true);
        int across = what == 0 ? 0 : slips.meanSeen(now.wood, now.lawInForce(), n, false);
        return what == 1 ? across : own - across;
    }

    public int led(int plan, int law, boolean stirred, int what) {
        if (!isText(plan) || !isText(law)) {
            return NO_SUCH;
        }
        Wood wood = now.wood;
        Wood led = thought.lead(now, now.plans[plan], now.laws[law], stirred);
        switch (what) {
            case 0:
                return led.tallied(FOUGHT) - wood.tallied(FOUGHT);
            case 1:
                return led.tallied(HEAT) - wood.tallied(HEAT);
            case 2:
                return led.cross();
            case 3:
                return Integer.bitCount(wood.there) - Integer.bitCount(led.there);
            case 4:
                return thought.firstFight;
            case 5:
                return led.names() - wood.names();
            case 6:
                return led.days - wood.days;
            default:
                return NO_SUCH;
        }
    }

    public int least(int law, int apart) {
        if (!isText(law) || apart < 0 || apart > 9) {
            return NONE;
        }
        return thought.daysTillFight(now, now.laws[law], apart);
    }

    public int back(int law) {
        return isText(law) ? thought.daysTillPeace(now, now.laws[law]) : NONE;
    }

    public int row(int kind) {
        if (kind == NONE) {
            now.inRow = 0;
            return 0;
        }
        if (!isKind(kind) || now.inRow >= MOST_ROW) {
            return NONE - 1;
        }
        now.row[now.inRow] = kind;
        now.inRow++;
        return now.inRow;
    }

    public int parts(int a, int b, int what) {
        if (!isText(a) || !isText(b) || what < 0 || what > now.inRow) {
            return NONE;
        }
        thought.beginOrders(now);
        Thought.tryOrders(thought, now, now.laws[a], 0, 0);
        thought.beginSecond();
        Thought.tryOrders(thought, now, now.laws[b], 0, 0);
        return what == 0 ? thought.farthest : thought.bestOrder[what - 1];
    }

    public boolean told(int n, int v) {
        if (n < 1 || n > PLAN_LINES || !isLike(v) && v != UNTOLD) {
            return false;
        }
        now.crosses[n - 1] = v;
        return true;
    }

    public int off(int plan, int law) {
        if (!isText(plan) || !isText(law)) {
            return NONE;
        }
        thought.lead(now, now.plans[plan], now.laws[law], true);
        return thought.offBy;
    }

    public int fitting(int plan) {
        if (!isText(plan)) {
            return NONE;
        }
        int best = NONE;
        int least = 0;
        for (int k = 0; k < TEXTS; k++) {
            thought.lead(now, now.plans[plan], now.laws[k], true);
            if (best == NONE || thought.offBy < least) {
                least = thought.offBy;
                best = k;
            }
        }
        return best;
    }

    public boolean number(int boy, int v) {
        if (!now.wood.isBoy(boy) || v < 0 || v > MOST_NUMBER) {
            return false;
        }
        now.numbers[boy] = v;
        return true;
    }

    public int cut(int what) {
        if (what < 0 || what > 2) {
            return NONE;
        }
        int all = cutting.allWays(now.wood);
        if (what == 1) {
            return all;
        }
        int asGreat = cutting.asGreat(now.wood, now.numbers, all);
        return what == 0 || all <= 0 ? asGreat : (int) (1000L * asGreat / all);
    }

    public int woods(int k, int m) {
        if (k < 0 || k > 9 || m < 2 || m > 100000) {
            return NONE;
        }
        for (int n = 1; n <= 60; n++) {
            if (waysOfAtMost(n, k) * m < 1L << n) {
                return n;
            }
        }
        return NONE;
    }

    public boolean image(boolean taking) {
        if (taking) {
            taken.copyFrom(now);
            isTaken = true;
        } else if (isTaken) {
            now.copyFrom(taken);
        }
        return isTaken;
    }

    public int look(int what) {
        Wood wood = now.wood;
        switch (what) {
            case 0:
                return wood.boys;
            case 1:
                return Integer.bitCount(wood.there);
            case 2:
                return wood.days;
            case 3:
                return wood.cross();
            case 4:
                return now.inForce;
            case 5:
                return wood.tallied(FOUGHT);
            case 6:
                return Integer.bitCount(wood.loyal);
            case 7:
                return now.inRow;
            default:
                return NO_SUCH;
        }
    }

    /** A DAY that stays goes by: how many LOTS FIGHT. */
    private int goThrough(int kind, int prize, int wronged) {
        Law law = now.lawInForce();
        int fights = course.goBy(now.wood, law, kind, prize, wronged);
        slips.settleLoyal(now.wood, law);
        now.keepDay();
        return fights;
    }

    private int ofFriends(int boy, int what) {
        Wood wood = now.wood;
        Law law = now.lawInForce();
        if (what == 8) {
            return slips.chosenBy(wood, law, boy);
        }
        slips.find(wood, law, boy);
        if (what == 6) {
            return slips.across(wood, boy);
        }
        int place = what - 3;
        return place >= 0 && place < FRIENDS ? slips.friends[place] : NONE;
    }

    private static boolean isLot(int lot) {
        return lot == 0 || lot == 1;
    }

    private static boolean isText(int k) {
        return k >= 0 && k < TEXTS;
    }

    private static boolean isKind(int kind) {
        return kind >= APART && kind <= TOGETHER;
    }

    private static boolean isLike(int v) {
        return v >= -MOST_LIKE && v <= MOST_LIKE;
    }

    private static boolean isBeans(int n) {
        return n >= 0 && n <= 999;
    }

    /** A set of BOYS has bit i for BOY i. */
    private static boolean has(int set, int i) {
        return (set >>> i & 1) == 1;
    }

    private static int mean(int sum, int count) {
        return count > 0 ? Math.floorDiv(sum, count) : 0;
    }

    private static int held(long v, int least, int most) {
        return (int) Math.max(least, Math.min(most, v));
    }

    /** In how many ways k or fewer of n go the other way; at n 60, k 9 it is still small beside a long. */
    private static long waysOfAtMost(int n, int k) {
        long ways = 0;
        long choices = 1;
        for (int i = 0; i <= k; i++) {
            ways += choices;
            choices = choices * (n - i) / (i + 1);
        }
        return ways;
    }

    /**
     * The BOYS, what they are to one another, what was counted, and the DAY that goes by or was the last one (kind to
     * fighting). Those of LOT 1 (second), those THERE and those LOYAL are sets.
     */
    private static final class Wood {
        private int boys;
        private int second;
        private int there;
        private int loyal;
        private int days;
        private int seed;
        private int kind;
        private int prize;
        private int ahead;
        private int winner = NONE;
        private int wronged = NONE;
        private int fighting;
        private final int[] strengths = new int[MOST_BOYS];
        private final int[] known = new int[MOST_BOYS];
        private final int[] likes = new int[MOST_BOYS * MOST_BOYS];
        private final int[] tallies = new int[TALLIES * LOTS];

        private void copyFrom(Wood other) {
            boys = other.boys;
            second = other.second;
            there = other.there;
            loyal = other.loyal;
            days = other.days;
            seed = other.seed;
            kind = other.kind;
            prize = other.prize;
            ahead = other.ahead;
            winner = other.winner;
            wronged = other.wronged;
            fighting = other.fighting;
            System.arraycopy(other.strengths, 0, strengths, 0, MOST_BOYS);
            System.arraycopy(other.known, 0, known, 0, MOST_BOYS);
            System.arraycopy(other.likes, 0, likes, 0, MOST_BOYS * MOST_BOYS);
            System.arraycopy(other.tallies, 0, tallies, 0, TALLIES * LOTS);
        }

        /** A BOY comes: his number, or NONE when there is no room. */
        private int join(int lot, int strength) {
            if (boys < 0 || boys >= MOST_BOYS) {
                return NONE;
            }
            int i = boys;
            boys++;
            strengths[i] = strength;
            second |= lot << i;
            there |= 1 << i;
            loyal |= 1 << i;
            return i;
        }

        private boolean isBoy(int i) {
            return i >= 0 && i < boys;
        }

        private boolean isCouple(int i, int j) {
            return isBoy(i) && isBoy(j) && i != j;
        }

        private void tellKnown(int i, int j, boolean is) {
            known[i] = is ? known[i] | 1 << j : known[i] & ~(1 << j);
            known[j] = is ? known[j] | 1 << i : known[j] & ~(1 << i);
        }

        private int lotOf(int i) {
            return second >>> i & 1;
        }

        /** The BOYS of a LOT that are THERE. */
        private int members(int lot) {
            return there & (lot == 0 ? ~second : second);
        }

        private int size(int lot) {
            return Integer.bitCount(members(lot));
        }

        private int own(int lot) {
            return meanLike(members(lot), members(lot));
        }

        private int across(int lot) {
            return meanLike(members(lot), members(1 - lot));
        }

        private int cross() {
            int first = members(0);
            int other = members(1);
            int couples = LOTS * Integer.bitCount(first) * Integer.bitCount(other);
            return mean(likeSum(first, other) + likeSum(other, first), couples);
        }

        /** Mean LIKE of a set of BOYS for a set of BOYS; nobody is a couple with himself. */
        private int meanLike(int from, int to) {
            int couples = Integer.bitCount(from) * Integer.bitCount(to) - Integer.bitCount(from & to);
            return mean(likeSum(from, to), couples);
        }

        private int likeSum(int from, int to) {
            int sum = 0;
            for (int i = 0; i < MOST_BOYS; i++) {
                for (int j = 0; has(from, i) && j < MOST_BOYS; j++) {
                    if (j != i && has(to, j)) {
                        sum += likes[i * MOST_BOYS + j];
                    }
                }
            }
            return sum;
        }

        private int score(int lot) {
            int members = members(lot);
            int score = Math.floorDiv(meanLike(members, members), 5) + drawOfTen();
            for (int i = 0; i < MOST_BOYS; i++) {
                if (has(members, i)) {
                    score += strengths[i];
                }
            }
            return score;
        }

        private int drawOfTen() {
            seed = 1664525 * seed + 1013904223;
            return (seed >>> 8) % 10;
        }

        private void count(int tally, int lot, int more) {
            tallies[tally * LOTS + lot] += more;
        }

        private int tallied(int tally) {
            return tallies[tally * LOTS] + tallies[tally * LOTS + 1];
        }

        private boolean isNamed(int lot) {
            return tallies[NAMED * LOTS + lot] > 0;
        }

        private int names() {
            return (isNamed(0) ? 1 : 0) + (isNamed(1) ? 1 : 0);
        }
    }

    /** What a LAW may ask, by its words: the facts of a couple, a LOT or a BOY on the wood's DAY. */
    private static final class Question {
        private final int[] facts = new int[FACTS];

        private void askOfDay(Wood wood, int lot) {
            Arrays.fill(facts, 0);
            facts[KIND] = wood.kind;
            facts[PRIZE] = wood.prize;
            facts[DAY] = wood.ahead;
            facts[WON] = wood.winner == lot ? 1 : 0;
            facts[LOST] = wood.winner == 1 - lot ? 1 : 0;
            facts[WRONGED] = wood.wronged == lot ? 1 : 0;
        }

        private void askOfCouple(Wood wood, int i, int j) {
            askOfDay(wood, wood.lotOf(i));
            facts[SAME] = wood.lotOf(i) == wood.lotOf(j) ? 1 : 0;
            facts[KNEW] = has(wood.known[i], j) ? 1 : 0;
            facts[LIKE] = wood.likes[i * MOST_BOYS + j];
            facts[BACK] = wood.likes[j * MOST_BOYS + i];
            facts[STRONG] = wood.strengths[j];
        }

        private void askOfLot(Wood wood, int lot) {
            int members = wood.members(lot);
            askOfDay(wood, lot);
            facts[OWN] = wood.meanLike(members, members);
            facts[ACROSS] = wood.meanLike(members, wood.members(1 - lot));
            facts[SIZE] = Integer.bitCount(members);
        }

        private void askOfBoy(Wood wood, int i) {
            int lot = wood.lotOf(i);
            int members = wood.members(lot);
            askOfDay(wood, lot);
            facts[OWN] = wood.meanLike(members, 1 << i);
            facts[ACROSS] = wood.meanLike(wood.members(1 - lot), 1 << i);
            facts[LIKE] = wood.meanLike(1 << i, members);
            facts[STRONG] = wood.strengths[i];
            facts[SIZE] = Integer.bitCount(members);
        }
    }

    /** How a DAY goes by in a wood, by a LAW. Who stays LOYAL is left to the slips, as no thought tells of it. */
    private static final class Course {
        private final Question question = new Question();

        /** How many LOTS FIGHT. */
        private int goBy(Wood wood, Law law, int kind, int prize, int wronged) {
            begin(wood, kind, prize, wronged);
            if (kind == AGAINST) {
                compete(wood);
            }
            changeLikes(wood, law);
            letFight(wood, law, 0);
            letFight(wood, law, 1);
            sendHome(wood, law);
            giveName(wood, law, 0);
            giveName(wood, law, 1);
            wood.days++;
            return Integer.bitCount(wood.fighting);
        }

        private void begin(Wood wood, int kind, int prize, int wronged) {
            wood.kind = kind;
            wood.prize = prize;
            wood.ahead = wood.days;
            wood.winner = NONE;
            wood.wronged = wronged;
            wood.fighting = 0;
            if (isLot(wronged)) {
                wood.count(WRONGS, wronged, 1);
            }
        }

        private void compete(Wood wood) {
            int first = wood.score(0);
            int other = wood.score(1);
            if (first != other) {
                wood.winner = first > other ? 0 : 1;
                wood.count(WINS, wood.winner, 1);
            }
        }

        /** Of a couple add asks no LIKES but its own two: so both are asked, then both changed. */
        private void changeLikes(Wood wood, Law law) {
            for (int i = 0; i < MOST_BOYS; i++) {
                for (int j = i + 1; has(wood.there, i) && j < MOST_BOYS; j++) {
                    if (has(wood.there, j)) {
                        int forth = changed(wood, law, i, j);
                        int back = changed(wood, law, j, i);
                        wood.likes[i * MOST_BOYS + j] = forth;
                        wood.likes[j * MOST_BOYS + i] = back;
                    }
                }
            }
        }

        private int changed(Wood wood, Law law, int i, int j) {
            question.askOfCouple(wood, i, j);
            long more = law.tells(ADD, question.facts, 0);
            return held(wood.likes[i * MOST_BOYS + j] + more, -MOST_LIKE, MOST_LIKE);
        }

        private void letFight(Wood wood, Law law, int lot) {
            question.askOfLot(wood, lot);
            int heat = law.tells(FIGHT, question.facts, 0);
            if (heat > 0) {
                wood.fighting |= 1 << lot;
                wood.count(FOUGHT, lot, 1);
                wood.count(HEAT, lot, Math.min(heat, MOST_HEAT));
            }
        }

        private void sendHome(Wood wood, Law law) {
            int gone = 0;
            for (int i = 0; i < MOST_BOYS; i++) {
                if (has(wood.there, i)) {
                    question.askOfBoy(wood, i);
                    gone |= law.tells(HOME, question.facts, 0) > 0 ? 1 << i : 0;
                }
            }
            wood.there &= ~gone;
        }

        private void giveName(Wood wood, Law law, int lot) {
            question.askOfLot(wood, lot);
            if (!wood.isNamed(lot) && law.tells(NAME, question.facts, 0) > 0) {
                wood.count(NAMED, lot, wood.ahead + 1);
            }
        }
    }

    /** Whom each BOY writes on his slip, who stays LOYAL by that, and the BEANS that are seen. */
    private static final class Slips {
        private final Question question = new Question();
        private final int[] friends = new int[FRIENDS];
        private final int[] worths = new int[FRIENDS];

        /** The FRIENDS of a BOY come into the row of them, NONE behind the last. */
        private void find(Wood wood, Law law, int i) {
            Arrays.fill(friends, NONE);
            for (int j = 0; has(wood.there, i) && j < MOST_BOYS; j++) {
                if (j != i && has(wood.there, j)) {
                    question.askOfCouple(wood, i, j);
                    putIn(j, law.tells(SLIP, question.facts, question.facts[LIKE]));
                }
            }
        }

        /** BOYS come here by their numbers, so that of several alike the first stays ahead. */
        private void putIn(int j, int worth) {
            int place = FRIENDS;
            while (place > 0 && (friends[place - 1] == NONE || worths[place - 1] < worth)) {
                place--;
            }
            for (int k = FRIENDS - 1; k > place; k--) {
                friends[k] = friends[k - 1];
                worths[k] = worths[k - 1];
            }
            if (place < FRIENDS) {
                friends[place] = j;
                worths[place] = worth;
            }
        }

        /** How many of the FRIENDS found last are of the other LOT than the BOY for whom they were found. */
        private int across(Wood wood, int i) {
            int count = 0;
            for (int k = 0; k < FRIENDS; k++) {
                if (friends[k] != NONE && wood.lotOf(friends[k]) != wood.lotOf(i)) {
                    count++;
                }
            }
            return count;
        }

        private int acrossOfLot(Wood wood, Law law, int lot) {
            int count = 0;
            for (int i = 0; i < MOST_BOYS; i++) {
                if (has(wood.members(lot), i)) {
                    find(wood, law, i);
                    count += across(wood, i);
                }
            }
            return count;
        }

        /** How many have a BOY as a FRIEND. */
        private int chosenBy(Wood wood, Law law, int boy) {
            int count = 0;
            for (int i = 0; i < MOST_BOYS; i++) {
                find(wood, law, i);
                for (int k = 0; k < FRIENDS; k++) {
                    count += friends[k] == boy ? 1 : 0;
                }
            }
            return count;
        }

        private void settleLoyal(Wood wood, Law law) {
            for (int i = 0; i < MOST_BOYS; i++) {
                if (has(wood.there & wood.loyal, i)) {
                    find(wood, law, i);
                    if (across(wood, i) == 0) {
                        wood.loyal &= ~(1 << i);
                    }
                }
            }
        }

        private int beansSeen(Wood wood, Law law, int i, int j, int n) {
            question.askOfCouple(wood, i, j);
            long more = law.tells(SEE, question.facts, 0);
            return held(n + more, 0, MOST_BEANS);
        }

        /** Mean over all couples of one LOT, or over all that are not of one. */
        private int meanSeen(Wood wood, Law law, int n, boolean isOfOne) {
            int sum = 0;
            int count = 0;
            for (int i = 0; i < MOST_BOYS; i++) {
                for (int j = 0; has(wood.there, i) && j < MOST_BOYS; j++) {
                    if (j != i && has(wood.there, j) && (wood.lotOf(i) == wood.lotOf(j)) == isOfOne) {
                        sum += beansSeen(wood, law, i, j, n);
                        count++;
                    }
                }
            }
            return mean(sum, count);
        }
    }

    /**
     * A LAW as steps, what is joined ahead of what joins it: 0 or more puts that NUMBER on the stack, FACT and more
     * the fact of a word, less than 0 (a sign or a word, negated) joins what lies on top.
     */
    private static final class Law {
        private static final int FACT = 10000;

        private int lines;
        private int size;
        private final int[] words = new int[LAW_LINES];
        private final int[] starts = new int[LAW_LINES];
        private final int[] whens = new int[LAW_LINES];
        private final int[] ends = new int[LAW_LINES];
        private final int[] steps = new int[MOST_TAPE];
        // At most two wait within each ( that is open and outside of all, and four in a comparison.
        private final int[] stack = new int[32];

        private void copyFrom(Law other) {
            lines = other.lines;
            size = other.size;
            System.arraycopy(other.words, 0, words, 0, LAW_LINES);
            System.arraycopy(other.starts, 0, starts, 0, LAW_LINES);
            System.arraycopy(other.whens, 0, whens, 0, LAW_LINES);
            System.arraycopy(other.ends, 0, ends, 0, LAW_LINES);
            System.arraycopy(other.steps, 0, steps, 0, MOST_TAPE);
        }

        private void clear() {
            lines = 0;
            size = 0;
        }

        private void putStep(int step) {
            if (size >= 0 && size < MOST_TAPE) {
                steps[size] = step;
                size++;
            }
        }

        private void endLine(int word, int start, int when) {
            if (lines >= 0 && lines < LAW_LINES) {
                words[lines] = word;
                starts[lines] = start;
                whens[lines] = when;
                ends[lines] = size;
                lines++;
            }
        }

        /** What a word TELLS of these facts; the last number where no line of it HOLDS. */
        private int tells(int word, int[] facts, int without) {
            for (int line = 0; line < lines && line < LAW_LINES; line++) {
                boolean isAsked = words[line] == word;
                if (isAsked && (whens[line] == ends[line] || worked(whens[line], ends[line], facts) != 0)) {
                    return worked(starts[line], whens[line], facts);
                }
            }
            return without;
        }

        private int worked(int from, int to, int[] facts) {
            int top = 0;
            for (int at = from; at >= 0 && at < to && at < MOST_TAPE; at++) {
                int step = steps[at];
                int fact = step - FACT;
                if (step >= 0 && fact < facts.length && top < stack.length) {
                    stack[top] = fact < 0 ? step : facts[fact];
                    top++;
                } else if (step == -NOT && top >= 1) {
                    stack[top - 1] = 1 - stack[top - 1];
                } else if (step < 0 && top >= 2) {
                    top--;
                    stack[top - 1] = joined(-step, stack[top - 1], stack[top]);
                }
            }
            return top > 0 ? stack[top - 1] : 0;
        }

        private static int joined(int by, int left, int right) {
            switch (by) {
                case '+':
                    return left + right;
                case '-':
                    return left - right;
                case '*':
                    return left * right;
                case '/':
                    return right == 0 ? 0 : left / right;
                case '<':
                    return left < right ? 1 : 0;
                case '=':
                    return left == right ? 1 : 0;
                case '>':
                    return left > right ? 1 : 0;
                case AND:
                    return left & right;
                case OR:
                    return left | right;
                default:
                    return 0;
            }
        }
    }

    /** A PLAN as its DAYS, each with the LOT that is WRONGED on it. */
    private static final class Plan {
        private int days;
        private int stirred = NONE;
        private final int[] kinds = new int[PLAN_LINES];
        private final int[] prizes = new int[PLAN_LINES];
        private final int[] wrongs = new int[PLAN_LINES];

        private void copyFrom(Plan other) {
            days = other.days;
            System.arraycopy(other.kinds, 0, kinds, 0, PLAN_LINES);
            System.arraycopy(other.prizes, 0, prizes, 0, PLAN_LINES);
            System.arraycopy(other.wrongs, 0, wrongs, 0, PLAN_LINES);
        }

        private void clear() {
            days = 0;
            stirred = NONE;
        }

        private void addDay(int kind, int prize) {
            if (days >= 0 && days < PLAN_LINES) {
                kinds[days] = kind;
                prizes[days] = prize;
                wrongs[days] = stirred;
                days++;
            }
            stirred = NONE;
        }
    }

    /** The TAPE, and the tokens that stand on it. */
    private static final class Tape {
        private int length;
        private int count;
        private final int[] bytes = new int[MOST_TAPE];
        private final int[] tokens = new int[MOST_TAPE];
        private final int[] places = new int[MOST_TAPE];
        private final int[] values = new int[MOST_TAPE];

        private void add(int four) {
            for (int shift = 24; shift >= 0; shift -= 8) {
                if (length >= 0 && length < MOST_TAPE) {
                    bytes[length] = four >>> shift & 255;
                    length++;
                }
            }
        }

        private void findTokens() {
            count = 0;
            int at = 0;
            for (int n = 0; n < MOST_TAPE && at < length; n++) {
                at = findToken(at);
            }
        }

        /** The place behind what stands at a place; it is always a later one. */
        private int findToken(int at) {
            int sign = signAt(at);
            int behind = at + 1;
            if (isLetter(sign)) {
                while (behind < length && isLetter(signAt(behind))) {
                    behind++;
                }
                put(wordBetween(at, behind), at, 0);
            } else if (isDigit(sign)) {
                while (behind < length && isDigit(signAt(behind))) {
                    behind++;
                }
                put(behind - at <= 4 ? NUMBER : NOTHING, at, valueBetween(at, behind));
            } else if (sign != 32 && sign != 10) {
                put(isSign(sign) ? sign : NOTHING, at, 0);
            }
            return behind;
        }

        private void put(int token, int place, int value) {
            if (count >= 0 && count < MOST_TAPE) {
                tokens[count] = token;
                places[count] = place;
                values[count] = value;
                count++;
            }
        }

        private int signAt(int at) {
            return at >= 0 && at < length && at < MOST_TAPE ? bytes[at] : NONE;
        }

        private int valueBetween(int from, int to) {
            int value = 0;
            for (int at = from; at < to; at++) {
                value = value * 10 + signAt(at) - '0';
            }
            return value;
        }

        private int wordBetween(int from, int to) {
            for (int word = KIND; word <= STIR_WORD; word++) {
                if (isBetween(spelling(word), from, to)) {
                    return word;
                }
            }
            return NOTHING;
        }

        private boolean isBetween(String word, int from, int to) {
            if (word.length() != to - from) {
                return false;
            }
            for (int k = 0; k < word.length(); k++) {
                if (word.charAt(k) != signAt(from + k)) {
                    return false;
                }
            }
            return true;
        }

        private static boolean isLetter(int sign) {
            return sign >= 'a' && sign <= 'z' || sign >= 'A' && sign <= 'Z';
        }

        private static boolean isDigit(int sign) {
            return sign >= '0' && sign <= '9';
        }

        /** ( ) * + stand together in the row of signs, and so do ; < = >. */
        private static boolean isSign(int sign) {
            return sign >= '(' && sign <= '+' || sign == '-' || sign == '/' || sign >= ';' && sign <= '>';
        }

        private static String spelling(int word) {
            switch (word) {
                case KIND: return "kind";
                case PRIZE: return "prize";
                case DAY: return "day";
                case SAME: return "same";
                case KNEW: return "knew";
                case WON: return "won";
                case LOST: return "lost";
                case WRONGED: return "wronged";
                case LIKE: return "like";
                case BACK: return "back";
                case STRONG: return "strong";
                case OWN: return "own";
                case ACROSS: return "across";
                case SIZE: return "size";
                case ADD: return "add";
                case FIGHT: return "fight";
                case HOME: return "home";
                case NAME: return "name";
                case SEE: return "see";
                case SLIP: return "slip";
                case WHEN: return "when";
                case OR: return "or";
                case AND: return "and";
                case NOT: return "not";
                case APART_WORD: return "apart";
                case AGAINST_WORD: return "against";
                case BESIDE_WORD: return "beside";
                case TOGETHER_WORD: return "together";
                case STIR_WORD: return "stir";
                default: return "";
            }
        }
    }

    /**
     * Reads the TAPE as a LAW or a PLAN. What reads a part of it answers whether that stood there; if not, the FAULT
     * is told.
     */
    private static final class Reader {
        private final Tape tape;
        private final Law law = new Law();
        private final Plan plan = new Plan();
        private int at;
        private int fault;
        private int faultPlace = NONE;

        private Reader(Tape read) {
            tape = read;
        }

        private void begin() {
            tape.findTokens();
            at = 0;
            fault = 0;
            faultPlace = NONE;
        }

        private int token() {
            return at >= 0 && at < tape.count ? tape.tokens[at] : END;
        }

        private int value() {
            return at >= 0 && at < tape.count ? tape.values[at] : 0;
        }

        private boolean fail(int why) {
            fault = why;
            faultPlace = at >= 0 && at < tape.count ? tape.places[at] : tape.length;
            return false;
        }

        /** How many lines; NONE for a FAULT, and then the LAW stays as it was. */
        private int readLaw(Law into) {
            law.clear();
            for (int line = 0; line <= LAW_LINES && token() != END; line++) {
                if (!readLawLine(line)) {
                    return NONE;
                }
            }
            into.copyFrom(law);
            return law.lines;
        }

        private boolean readLawLine(int line) {
            int word = token();
            if (word < ADD || word > SLIP) {
                return fail(CANNOT_STAND);
            }
            if (line >= LAW_LINES) {
                return fail(TOO_MANY);
            }
            at++;
            int start = law.size;
            if (!readSum()) {
                return false;
            }
            int when = law.size;
            if (token() == WHEN) {
                at++;
                if (!readChoice(0)) {
                    return false;
                }
            }
            law.endLine(word, start, when);
            return readSign(';', ';');
        }

        /** A sign of those from the first to the last; < = > stand in a row. */
        private boolean readSign(int first, int last) {
            if (token() < first || token() > last) {
                return fail(CANNOT_STAND);
            }
            at++;
            return true;
        }

        /** B: an and joins at once, an or waits till the A behind it is read. */
        private boolean readChoice(int open) {
            boolean isOrWaiting = false;
            int word = NOTHING;
            for (int n = 0; n < MOST_TAPE; n++) {
                if (!readClaim(open)) {
                    return false;
                }
                if (word == AND) {
                    law.putStep(-AND);
                }
                word = token();
                if (word != AND) {
                    if (isOrWaiting) {
                        law.putStep(-OR);
                    }
                    if (word != OR) {
                        return true;
                    }
                    isOrWaiting = true;
                }
                at++;
            }
            return false;
        }

        /** C, with so many ( and not open around it. */
        private boolean readClaim(int open) {
            int opened = open;
            while (token() == NOT && opened < MOST_OPEN) {
                at++;
                opened++;
            }
            boolean isInner = token() == '(';
            if (opened >= MOST_OPEN && (isInner || token() == NOT)) {
                return fail(TOO_MANY);
            }
            boolean stands;
            if (isInner) {
                at++;
                stands = readChoice(opened + 1) && readSign(')', ')');
            } else {
                stands = readSum();
                int sign = token();
                stands = stands && readSign('<', '>') && readSum();
                law.putStep(-sign);
            }
            if ((opened - open) % 2 == 1) {
                law.putStep(-NOT);
            }
            return stands;
        }

        /** E: * and / join at once, + and - wait till the T behind them is read. */
        private boolean readSum() {
            int waiting = NOTHING;
            int sign = NOTHING;
            for (int n = 0; n < MOST_TAPE; n++) {
                if (!readUnit(sign == '/')) {
                    return false;
                }
                if (sign == '*' || sign == '/') {
                    law.putStep(-sign);
                }
                sign = token();
                if (sign != '*' && sign != '/') {
                    if (waiting != NOTHING) {
                        law.putStep(-waiting);
                    }
                    if (sign != '+' && sign != '-') {
                        return true;
                    }
                    waiting = sign;
                }
                at++;
            }
            return false;
        }

        /** U, or what may stand behind a /. */
        private boolean readUnit(boolean isDivisor) {
            int token = token();
            if (token == NUMBER) {
                if (isDivisor && value() == 0) {
                    return fail(TOO_GREAT);
                }
                law.putStep(value());
            } else if (token >= KIND && token <= SIZE && !isDivisor) {
                law.putStep(Law.FACT + token - KIND);
            } else {
                return fail(CANNOT_STAND);
            }
            at++;
            return true;
        }

        /** How many lines; NONE for a FAULT, and then the PLAN stays as it was. */
        private int readPlan(Plan into) {
            plan.clear();
            int lines = 0;
            while (lines <= PLAN_LINES && token() != END) {
                if (!readPlanLine(lines)) {
                    return NONE;
                }
                lines++;
            }
            into.copyFrom(plan);
            return lines;
        }

        private boolean readPlanLine(int line) {
            int word = token();
            if (word < APART_WORD || word > STIR_WORD) {
                return fail(CANNOT_STAND);
            }
            if (line >= PLAN_LINES) {
                return fail(TOO_MANY);
            }
            at++;
            int number = 0;
            if (word == AGAINST_WORD || word == STIR_WORD) {
                number = value();
                if (!readNumber(word == STIR_WORD ? LOTS - 1 : MOST_PRIZE)) {
                    return false;
                }
            }
            if (word == STIR_WORD) {
                plan.stirred = number;
            } else {
                plan.addDay(word - APART_WORD, number);
            }
            return readSign(';', ';');
        }

        private boolean readNumber(int most) {
            if (token() != NUMBER) {
                return fail(CANNOT_STAND);
            }
            if (value() > most) {
                return fail(TOO_GREAT);
            }
            at++;
            return true;
        }
    }

    /** All that an image keeps. */
    private static final class Told {
        private final Wood wood = new Wood();
        private final Law[] laws = new Law[TEXTS];
        private final Plan[] plans = new Plan[TEXTS];
        private final int[] kept = new int[MOST_DAYS * KEPT_OF_DAY];
        private final int[] row = new int[MOST_ROW];
        private final int[] crosses = new int[PLAN_LINES];
        private final int[] numbers = new int[MOST_BOYS];
        private int inForce;
        private int inRow;

        private Told() {
            for (int k = 0; k < TEXTS; k++) {
                laws[k] = new Law();
                plans[k] = new Plan();
            }
            Arrays.fill(crosses, UNTOLD);
        }

        private void copyFrom(Told other) {
            wood.copyFrom(other.wood);
            for (int k = 0; k < TEXTS; k++) {
                laws[k].copyFrom(other.laws[k]);
                plans[k].copyFrom(other.plans[k]);
            }
            System.arraycopy(other.kept, 0, kept, 0, MOST_DAYS * KEPT_OF_DAY);
            System.arraycopy(other.row, 0, row, 0, MOST_ROW);
            System.arraycopy(other.crosses, 0, crosses, 0, PLAN_LINES);
            System.arraycopy(other.numbers, 0, numbers, 0, MOST_BOYS);
            inForce = other.inForce;
            inRow = other.inRow;
        }

        private Law lawInForce() {
            return laws[inForce];
        }

        /** What is KEPT of the DAY that went by last. */
        private void keepDay() {
            int first = (wood.days - 1) * KEPT_OF_DAY;
            if (first < 0 || first + KEPT_OF_DAY > kept.length) {
                return;
            }
            kept[first] = wood.own(0);
            kept[first + 1] = wood.own(1);
            kept[first + 2] = wood.across(0);
            kept[first + 3] = wood.across(1);
            kept[first + 4] = wood.winner;
            kept[first + 5] = wood.fighting;
            kept[first + 6] = Integer.bitCount(wood.there);
            kept[first + 7] = wood.kind;
        }
    }

    /** What goes on IN THOUGHT, in woods of its own. */
    private static final class Thought {
        private final Course course;
        private final Wood[] woods = new Wood[MOST_ROW + 1];
        private int firstFight;
        private int offBy;
        private final int[] order = new int[MOST_ROW];
        private final int[] bestOrder = new int[MOST_ROW];
        private final int[] crosses = new int[MOST_ORDERS];
        private int arrived;
        private int farthest;
        private boolean isSecond;

        private Thought(Course used) {
            course = used;
            for (int k = 0; k < woods.length; k++) {
                woods[k] = new Wood();
            }
        }

        private Wood startFrom(Told now) {
            Wood wood = woods[0];
            wood.copyFrom(now.wood);
            return wood;
        }

        /** The wood at the PLAN's end; its first DAY with a FIGHT and its OFF are told beside it. */
        private Wood lead(Told now, Plan plan, Law law, boolean stirred) {
            Wood wood = startFrom(now);
            firstFight = NONE;
            offBy = 0;
            for (int d = 0; d < plan.days && wood.days < MOST_DAYS; d++) {
                int wronged = stirred ? plan.wrongs[d] : NONE;
                int fights = course.goBy(wood, law, plan.kinds[d], plan.prizes[d], wronged);
                if (fights > 0 && firstFight == NONE) {
                    firstFight = d + 1;
                }
                if (now.crosses[d] != UNTOLD) {
                    offBy += Math.abs(wood.cross() - now.crosses[d]);
                }
            }
            return wood;
        }

        /** LEAST. */
        private int daysTillFight(Told now, Law law, int apart) {
            Wood wood = startFrom(now);
            for (int d = 0; d < apart; d++) {
                course.goBy(wood, law, APART, 0, NONE);
            }
            for (int n = 1; n <= 20; n++) {
                if (course.goBy(wood, law, AGAINST, THOUGHT_PRIZE, NONE) > 0) {
                    return n;
                }
            }
            return NONE;
        }

        /** BACK. */
        private int daysTillPeace(Told now, Law law) {
            Wood wood = startFrom(now);
            for (int n = 0; n < 30 && wood.cross() < 0; n++) {
                course.goBy(wood, law, TOGETHER, 0, NONE);
            }
            return wood.cross() < 0 ? NONE : wood.days - now.wood.days;
        }

        private void beginOrders(Told now) {
            startFrom(now);
            arrived = 0;
            isSecond = false;
            farthest = NONE;
        }

        private void beginSecond() {
            arrived = 0;
            isSecond = true;
        }

        /** All orders of ROW that go on from the places taken, the first by its places first. */
        private static void tryOrders(Thought in, Told now, Law law, int depth, int taken) {
            if (depth >= now.inRow || depth >= MOST_ROW) {
                in.arrive(in.woods[depth].cross());
                return;
            }
            for (int place = 0; place < now.inRow; place++) {
                if (!has(taken, place)) {
                    Wood wood = in.woods[depth + 1];
                    wood.copyFrom(in.woods[depth]);
                    int kind = now.row[place];
                    if (wood.days < MOST_DAYS) {
                        in.course.goBy(wood, law, kind, kind == AGAINST ? THOUGHT_PRIZE : 0, NONE);
                    }
                    in.order[depth] = place;
                    tryOrders(in, now, law, depth + 1, taken | 1 << place);
                }
            }
        }

        /** The CROSS to which the first LAW led by an order waits for that of the second. */
        private void arrive(int cross) {
            if (arrived < 0 || arrived >= MOST_ORDERS) {
                return;
            }
            if (!isSecond) {
                crosses[arrived] = cross;
            } else if (Math.abs(crosses[arrived] - cross) > farthest) {
                farthest = Math.abs(crosses[arrived] - cross);
                System.arraycopy(order, 0, bestOrder, 0, MOST_ROW);
            }
            arrived++;
        }
    }

    /**
     * CUT. It counts the ways for the lesser LOT: as great or greater for LOT 0 is as small or smaller for those who
     * are left, so that its rows need no more than half of the BOYS.
     */
    private static final class Cut {
        private static final int MOST_CHOSEN = MOST_BOYS / 2;
        private static final int MOST_SUM = MOST_CHOSEN * MOST_NUMBER;

        private final int[][] ways = new int[MOST_CHOSEN + 1][MOST_SUM + 1];

        private int allWays(Wood wood) {
            int chosen = wood.size(0);
            int there = chosen + wood.size(1);
            long choices = 1;
            for (int i = 0; i < chosen; i++) {
                choices = choices * (there - i) / (i + 1);
            }
            return (int) choices;
        }

        private int asGreat(Wood wood, int[] numbers, int all) {
            int first = wood.size(0);
            int other = wood.size(1);
            if (first <= other) {
                return all - atMost(wood.there, numbers, first, sumOf(wood.members(0), numbers) - 1);
            }
            return atMost(wood.there, numbers, other, sumOf(wood.members(1), numbers));
        }

        private static int sumOf(int members, int[] numbers) {
            int sum = 0;
            for (int i = 0; i < MOST_BOYS; i++) {
                sum += has(members, i) ? numbers[i] : 0;
            }
            return sum;
        }

        /** In how many ways so many of a set are chosen whose sum is no more than that. */
        private int atMost(int set, int[] numbers, int chosen, int sum) {
            if (chosen < 0 || chosen > MOST_CHOSEN || sum < 0 || sum > MOST_SUM) {
                return 0;
            }
            for (int count = 0; count <= chosen; count++) {
                Arrays.fill(ways[count], 0);
            }
            ways[0][0] = 1;
            for (int i = 0; i < MOST_BOYS; i++) {
                if (has(set, i)) {
                    addBoy(numbers[i], chosen, sum);
                }
            }
            int all = 0;
            for (int s = 0; s <= sum; s++) {
                all += ways[chosen][s];
            }
            return all;
        }

        /** From the most down, so that nobody is chosen twice. */
        private void addBoy(int number, int chosen, int sum) {
            for (int count = chosen; count > 0; count--) {
                for (int s = sum; s >= number; s--) {
                    ways[count][s] += ways[count - 1][s - number];
                }
            }
        }
    }
}
