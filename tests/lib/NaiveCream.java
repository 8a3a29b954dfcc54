import java.math.BigInteger;
import java.util.ArrayList;
import java.util.Arrays;
import java.util.List;

/**
 * The document once more, in the slowest and plainest way and with the whole Java library: what the program answers
 * is compared with it. It shares nothing with the program, so that a slip in one shows.
 */
public final class NaiveCream {
    private static final int NONE = -1, BAD = -2, NO = -3, FULL = -4, LAST = -7;

    static final class Farm { int x, y, cows; boolean member; }
    static final class Can { int farm, day, weight, churn = NONE; }
    static final class Test { int farm, day, hand, v, known; int right = NONE, rightKnown = NONE; }
    static final class Churn { int day, heat, out = NONE; }
    static final class Box { int churn, pence = NONE, known = NONE; int[] grades = {NONE, NONE}; }
    static final class Motion { String text; int from; boolean byCows, torn; int[] votes = new int[20]; }
    static final class Site { int x, y, cost; }

    static final class State {
        List<Farm> farms = new ArrayList<>();
        List<Can> cans = new ArrayList<>();
        List<Test> tests = new ArrayList<>();
        List<Churn> churns = new ArrayList<>();
        List<Box> boxes = new ArrayList<>();
        List<Motion> motions = new ArrayList<>();
        List<int[]> creams = new ArrayList<>();
        List<int[]> calved = new ArrayList<>();
        List<Site> sites = new ArrayList<>();
        List<int[]> loans = new ArrayList<>();
        String[] texts = {"", "", "", "", "", ""};
        int[] bias = new int[4];
        int[] yields = new int[52];
        int period = 7, sour = 300, freight = 1;

        State copy() {
            State s = new State();
            for (Farm f : farms) { Farm g = new Farm(); g.x = f.x; g.y = f.y; g.cows = f.cows; g.member = f.member; s.farms.add(g); }
            for (Can f : cans) { Can g = new Can(); g.farm = f.farm; g.day = f.day; g.weight = f.weight; g.churn = f.churn; s.cans.add(g); }
            for (Test f : tests) {
                Test g = new Test();
                g.farm = f.farm; g.day = f.day; g.hand = f.hand; g.v = f.v; g.known = f.known; g.right = f.right; g.rightKnown = f.rightKnown;
                s.tests.add(g);
            }
            for (Churn f : churns) { Churn g = new Churn(); g.day = f.day; g.heat = f.heat; g.out = f.out; s.churns.add(g); }
            for (Box f : boxes) { Box g = new Box(); g.churn = f.churn; g.pence = f.pence; g.known = f.known; g.grades = f.grades.clone(); s.boxes.add(g); }
            for (Motion f : motions) {
                Motion g = new Motion();
                g.text = f.text; g.from = f.from; g.byCows = f.byCows; g.torn = f.torn; g.votes = f.votes.clone();
                s.motions.add(g);
            }
            s.creams.addAll(creams);
            s.calved.addAll(calved);
            s.sites.addAll(sites);
            s.loans.addAll(loans);
            s.texts = texts.clone();
            s.bias = bias.clone();
            s.yields = yields.clone();
            s.period = period; s.sour = sour; s.freight = freight;
            return s;
        }
    }

    private State s = new State();
    private final State[] images = new State[2];

    private static boolean in(int v, int a, int b) { return a <= v && v <= b; }
    private static boolean in(int v, List<?> list) { return 0 <= v && v < list.size(); }
    private static boolean day(int d) { return in(d, 0, 195); }
    private static boolean week(int w) { return in(w, 0, 27); }

    public int farm(int x, int y, int cows, boolean member) {
        if (!in(x, 0, 200) || !in(y, 0, 200) || !in(cows, 0, 60)) return BAD;
        if (s.farms.size() == 20) return FULL;
        Farm f = new Farm();
        f.x = x; f.y = y; f.cows = cows; f.member = member;
        s.farms.add(f);
        return s.farms.size() - 1;
    }

    public int change(int farm, int cows, boolean member) {
        if (!in(farm, s.farms) || !in(cows, 0, 60)) return BAD;
        s.farms.get(farm).cows = cows;
        s.farms.get(farm).member = member;
        return 1;
    }

    public int can(int farm, int day, int weight) {
        if (!in(farm, s.farms) || !day(day) || !in(weight, 1, 1000)) return BAD;
        if (s.cans.size() == 300) return FULL;
        Can c = new Can();
        c.farm = farm; c.day = day; c.weight = weight;
        s.cans.add(c);
        return s.cans.size() - 1;
    }

    public int test(int farm, int day, int hand, int v, int known) {
        if (!in(farm, s.farms) || !day(day) || !in(hand, 0, 3)) return BAD;
        if (!(in(v, 0, 1000) || v == LAST) || !day(known) || known < day) return BAD;
        if (s.tests.size() == 200) return FULL;
        Test t = new Test();
        t.farm = farm; t.day = day; t.hand = hand; t.v = v; t.known = known;
        s.tests.add(t);
        return s.tests.size() - 1;
    }

    public int right(int test, int v, int known) {
        if (!in(test, s.tests) || !in(v, 0, 1000) || !day(known)) return BAD;
        Test t = s.tests.get(test);
        if (known < t.known) return BAD;
        if (t.rightKnown != NONE) return NO;
        t.right = v;
        t.rightKnown = known;
        return 1;
    }

    public int bias(int hand, int v) {
        if (!in(hand, 0, 3) || !in(v, -50, 50)) return -1000;
        int was = s.bias[hand];
        s.bias[hand] = v;
        return was;
    }

    public int period(int days) {
        if (!in(days, 1, 28)) return BAD;
        int was = s.period;
        s.period = days;
        return was;
    }

    /** The number known last; null: not known, LAST: no number. */
    private Integer numberAt(Test t, int k) {
        if (t.known > k) return null;
        if (t.rightKnown != NONE && t.rightKnown <= k) return t.right;
        return t.v;
    }

    private Integer rateAt(int test, int k) {
        Test t = s.tests.get(test);
        Integer v = numberAt(t, k);
        if (v == null) return null;
        if (v != LAST) return Math.min(1000, Math.max(0, v - s.bias[t.hand]));
        for (int day = t.day; day >= 0; day--) {
            for (int i = s.tests.size() - 1; i >= 0; i--) {
                Test u = s.tests.get(i);
                if (u.farm != t.farm || u.day != day || day == t.day && i >= test) continue;
                Integer w = numberAt(u, k);
                if (w != null && w != LAST) return rateAt(i, k);
            }
        }
        return 350;
    }

    public int rate(int test, int k) {
        if (!in(test, s.tests) || !day(k)) return BAD;
        Integer r = rateAt(test, k);
        return r == null ? NONE : r;
    }

    public int canRate(int can, int k) {
        if (!in(can, s.cans) || !day(k)) return BAD;
        Can c = s.cans.get(can);
        for (int p = c.day / s.period; p >= 0; p--) {
            int sum = 0, many = 0;
            for (int t = 0; t < s.tests.size(); t++) {
                Test test = s.tests.get(t);
                Integer r = rateAt(t, k);
                if (test.farm == c.farm && r != null && test.day >= p * s.period && test.day < (p + 1) * s.period) {
                    sum += r;
                    many++;
                }
            }
            if (many > 0) return sum / many;
        }
        return 350;
    }

    private long canFat(int can, int k) { return (long) s.cans.get(can).weight * canRate(can, k); }

    public long fat(int farm, int week, int k) {
        if (!in(farm, s.farms) || !week(week) || !day(k)) return BAD;
        long sum = 0;
        for (int c = 0; c < s.cans.size(); c++) {
            Can can = s.cans.get(c);
            if (can.farm == farm && can.day >= 7 * week && can.day <= 7 * week + 6) sum += canFat(c, k);
        }
        return sum;
    }

    public int churn(int day, int heat) {
        if (!day(day) || !in(heat, 40, 80)) return BAD;
        if (s.churns.size() == 40) return FULL;
        Churn c = new Churn();
        c.day = day; c.heat = heat;
        s.churns.add(c);
        return s.churns.size() - 1;
    }

    public int fill(int churn, int can) {
        if (!in(churn, s.churns) || !in(can, s.cans)) return BAD;
        Can c = s.cans.get(can);
        int day = s.churns.get(churn).day;
        if (c.churn != NONE || c.day > day || c.day < day - 9) return NO;
        c.churn = churn;
        return 1;
    }

    public long about(int churn, int k, int what) {
        if (!in(churn, s.churns) || !day(k) || !in(what, 0, 6)) return BAD;
        Churn c = s.churns.get(churn);
        int many = 0, oldest = 0, boxes = 0;
        long fat = 0, pence = 0;
        for (int i = 0; i < s.cans.size(); i++) {
            if (s.cans.get(i).churn != churn) continue;
            many++;
            oldest = Math.max(oldest, c.day - s.cans.get(i).day);
            fat += canFat(i, k);
        }
        for (Box b : s.boxes) {
            if (b.churn != churn) continue;
            boxes++;
            if (b.pence != NONE && b.known <= k) pence += b.pence;
        }
        int loss = 5 + 2 * (c.heat > 55 ? c.heat - 55 : 55 - c.heat) + 10 * oldest;
        long butter = fat * (1000 - loss) / 1000;
        long off = c.out > butter ? c.out - butter : butter - c.out;
        long agrees = c.out == NONE ? NONE : off <= butter * 20 / 1000 ? 1 : 0;
        return new long[] {many, loss, fat, butter, agrees, boxes, pence}[what];
    }

    public int out(int churn, int v) {
        if (!in(churn, s.churns) || !in(v, 0, 300000000)) return BAD;
        if (s.churns.get(churn).out != NONE) return NO;
        s.churns.get(churn).out = v;
        return 1;
    }

    public int box(int churn) {
        if (!in(churn, s.churns)) return BAD;
        if (s.boxes.size() == 100) return FULL;
        Box b = new Box();
        b.churn = churn;
        s.boxes.add(b);
        return s.boxes.size() - 1;
    }

    public int sell(int box, int pence, int known) {
        if (!in(box, s.boxes) || !in(pence, 0, 1000000) || !day(known)) return BAD;
        Box b = s.boxes.get(box);
        if (known < s.churns.get(b.churn).day) return BAD;
        if (b.pence != NONE) return NO;
        b.pence = pence;
        b.known = known;
        return 1;
    }

    public int grade(int box, int grader, int v) {
        if (!in(box, s.boxes) || !in(grader, 0, 1) || !in(v, 0, 100)) return BAD;
        int was = s.boxes.get(box).grades[grader];
        s.boxes.get(box).grades[grader] = v;
        return was;
    }

    public int lean() {
        int sum = 0, many = 0;
        for (Box b : s.boxes) {
            if (b.grades[0] != NONE && b.grades[1] != NONE) { sum += b.grades[0] - b.grades[1]; many++; }
        }
        return many == 0 ? 0 : BigInteger.valueOf(sum).divide(BigInteger.valueOf(many)).intValue();
    }

    public int lot(int churn, int what) {
        if (!in(churn, s.churns) || !in(what, 0, 3)) return -1000;
        List<Integer> grades = new ArrayList<>();
        for (Box b : s.boxes) {
            if (b.churn != churn) continue;
            if (b.grades[0] != NONE) grades.add(b.grades[0]);
            else if (b.grades[1] != NONE) grades.add(b.grades[1] + lean());
        }
        if (what == 3) return grades.size();
        if (grades.isEmpty()) return -2000;
        int sum = 0;
        for (int g : grades) sum += g;
        if (what == 2) return BigInteger.valueOf(sum).divide(BigInteger.valueOf(grades.size())).intValue();
        grades.sort(null);
        return grades.get(what == 0 ? 0 : grades.size() - 1);
    }

    public long lead(int churn, int farm, int k) {
        if (!in(churn, s.churns) || !in(farm, s.farms) || !day(k)) return BAD;
        long sum = 0;
        for (int c = 0; c < s.cans.size(); c++) {
            if (s.cans.get(c).churn == churn && s.cans.get(c).farm == farm) sum += canFat(c, k);
        }
        return sum;
    }

    public int write(int text, int character) {
        if (!in(text, 0, 5) || !in(character, 0, 127)) return BAD;
        if (s.texts[text].length() == 60) return FULL;
        s.texts[text] += (char) character;
        return s.texts[text].length();
    }

    public int erase(int text) {
        if (!in(text, 0, 5)) return BAD;
        int was = s.texts[text].length();
        s.texts[text] = "";
        return was;
    }

    /** A reader by descent: first the whole tree, or a fault; then what the tree tells. */
    static final class Fault extends RuntimeException {
        final int code;
        Fault(int code) { super(null, null, false, false); this.code = code; }
    }

    interface Tree { Long tell(long[] names); }

    static final class Descent {
        final String text;
        int at = 0, open = 0;
        Descent(String text) { this.text = text; }

        char see() {
            while (at < text.length() && text.charAt(at) == ' ') at++;
            return at < text.length() ? text.charAt(at) : (char) 200;
        }
        Fault such() { see(); return new Fault(10 * at + 1); }
        boolean take(char c) { if (see() != c) return false; at++; return true; }

        Tree whole() {
            Tree t = value();
            see();
            if (at < text.length()) throw such();
            return t;
        }
        Tree value() {
            Tree c = either();
            if (!take('?')) return c;
            Tree yes = value();
            if (!take(':')) throw such();
            Tree no = value();
            return names -> { Long v = c.tell(names); return v == null ? null : v != 0 ? yes.tell(names) : no.tell(names); };
        }
        Tree either() {
            Tree left = both();
            while (take('|')) { Tree a = left, b = both(); left = names -> joined(a, b, names, true); }
            return left;
        }
        Tree both() {
            Tree left = held();
            while (take('&')) { Tree a = left, b = held(); left = names -> joined(a, b, names, false); }
            return left;
        }
        static Long joined(Tree a, Tree b, long[] names, boolean by) {
            Long v = a.tell(names);
            if (v == null) return null;
            if ((v != 0) == by) return by ? 1L : 0L;
            Long w = b.tell(names);
            return w == null ? null : w != 0 ? 1L : 0L;
        }
        Tree held() {
            Tree a = sum();
            for (char c : new char[] {'<', '>', '='}) {
                if (take(c)) return two(c, a, sum());
            }
            return a;
        }
        Tree sum() {
            Tree left = term();
            while (see() == '+' || see() == '-') { char c = see(); at++; left = two(c, left, term()); }
            return left;
        }
        Tree term() {
            Tree left = unit();
            while (see() == '*' || see() == '/') { char c = see(); at++; left = two(c, left, unit()); }
            return left;
        }
        static Tree two(char c, Tree a, Tree b) {
            return names -> {
                Long v = a.tell(names), w = b.tell(names);
                if (v == null || w == null || c == '/' && w == 0) return null;
                switch (c) {
                    case '<': return v < w ? 1L : 0L;
                    case '>': return v > w ? 1L : 0L;
                    case '=': return v.longValue() == w.longValue() ? 1L : 0L;
                    case '+': return BigInteger.valueOf(v).add(BigInteger.valueOf(w)).longValue();
                    case '-': return BigInteger.valueOf(v).subtract(BigInteger.valueOf(w)).longValue();
                    case '*': return BigInteger.valueOf(v).multiply(BigInteger.valueOf(w)).longValue();
                    default: return BigInteger.valueOf(v).divide(BigInteger.valueOf(w)).longValue();
                }
            };
        }
        Tree unit() {
            char c = see();
            if (c >= '0' && c <= '9') {
                int end = at;
                while (end < text.length() && Character.isDigit(text.charAt(end))) end++;
                if (end - at > 6) throw new Fault(10 * at + 2);
                long v = Long.parseLong(text.substring(at, end));
                at = end;
                return names -> v;
            }
            int name = "wfnotmcr".indexOf(c);
            if (name >= 0) { at++; return names -> names[name]; }
            if (c == '(') {
                if (open == 8) throw new Fault(10 * at + 3);
                at++; open++;
                Tree t = value();
                if (!take(')')) throw such();
                open--;
                return t;
            }
            if (c == '!') { at++; Tree t = unit(); return names -> { Long v = t.tell(names); return v == null ? null : v == 0 ? 1L : 0L; }; }
            if (c == '-') { at++; Tree t = unit(); return names -> { Long v = t.tell(names); return v == null ? null : -v; }; }
            throw such();
        }
    }

    private static int faultOf(String text) {
        try { new Descent(text).whole(); return NONE; } catch (Fault f) { return f.code; }
    }

    public int fault(int text) { return in(text, 0, 5) ? faultOf(s.texts[text]) : BAD; }

    /** w, fat, n, o of a FARM's CANS in CHURNS of the WEEK. */
    private long[] weekOf(int farm, int week, int k) {
        long[] sums = new long[4];
        for (int c = 0; c < s.cans.size(); c++) {
            Can can = s.cans.get(c);
            if (can.farm != farm || can.churn == NONE) continue;
            int day = s.churns.get(can.churn).day;
            if (day < 7 * week || day > 7 * week + 6) continue;
            sums[0] += can.weight;
            sums[1] += canFat(c, k);
            sums[2]++;
            sums[3] += day - can.day;
        }
        return sums;
    }

    private Long told(String text, int farm, int week, int k) {
        long[] own = weekOf(farm, week, k);
        long tests = 0, rank = 0;
        for (Test t : s.tests) if (t.farm == farm && t.known <= k && t.day / 7 == week) tests++;
        for (int f = 0; f < s.farms.size(); f++) if (weekOf(f, week, k)[0] > own[0]) rank++;
        Farm f = s.farms.get(farm);
        long[] names = {own[0], own[1] / 100, own[2], own[3], tests, f.member ? 1 : 0, f.cows, rank};
        return new Descent(text).whole().tell(names);
    }

    public long tells(int text, int farm, int week, int k) {
        if (!in(text, 0, 5) || !in(farm, s.farms) || !week(week) || !day(k)) return -2000000000000000000L;
        if (faultOf(s.texts[text]) != NONE) return -3000000000000000000L;
        Long v = told(s.texts[text], farm, week, k);
        return v == null ? -1000000000000000000L : v;
    }

    public int motion(int text, int from, boolean byCows) {
        if (!in(text, 0, 5) || !day(from)) return BAD;
        if (faultOf(s.texts[text]) != NONE) return NO;
        if (s.motions.size() == 10) return FULL;
        Motion m = new Motion();
        m.text = s.texts[text]; m.from = from; m.byCows = byCows;
        s.motions.add(m);
        return s.motions.size() - 1;
    }

    public int vote(int motion, int farm, int how) {
        if (!in(motion, s.motions) || !in(farm, s.farms) || !in(how, -1, 1)) return -10;
        Motion m = s.motions.get(motion);
        if (!s.farms.get(farm).member || m.torn) return -20;
        int was = m.votes[farm];
        m.votes[farm] = how;
        return was;
    }

    public int tear(int motion, boolean is) {
        if (!in(motion, s.motions)) return BAD;
        if (s.motions.get(motion).torn == is) return NO;
        s.motions.get(motion).torn = is;
        return 1;
    }

    public int motionAt(int motion, int what) {
        if (!in(motion, s.motions) || !in(what, 0, 4)) return BAD;
        Motion m = s.motions.get(motion);
        int yes = 0, no = 0, all = 0;
        for (int f = 0; f < s.farms.size(); f++) {
            if (!s.farms.get(f).member) continue;
            int heads = m.byCows ? s.farms.get(f).cows : 1;
            all += heads;
            if (m.votes[f] == 1) yes += heads;
            if (m.votes[f] == -1) no += heads;
        }
        return new int[] {yes, no, all, yes > no && (yes + no) * 1000 >= all * 500 ? 1 : 0, m.torn ? 1 : 0}[what];
    }

    public int force(int day) {
        if (!day(day)) return BAD;
        for (int from = day; from >= 0; from--) {
            for (int m = s.motions.size() - 1; m >= 0; m--) {
                Motion motion = s.motions.get(m);
                if (motion.from == from && !motion.torn && motionAt(m, 3) == 1) return m;
            }
        }
        return NONE;
    }

    public long money(int week, int k) {
        if (!week(week) || !day(k)) return BAD;
        long sum = 0;
        for (Box b : s.boxes) {
            if (b.pence != NONE && b.known <= k && s.churns.get(b.churn).day / 7 == week) sum += b.pence;
        }
        return sum;
    }

    public long share(int week, int farm, int k) {
        if (!week(week) || !in(farm, s.farms) || !day(k)) return BAD;
        if (weekOf(farm, week, k)[2] == 0) return 0;
        int m = force(7 * week);
        Long v = told(m == NONE ? "f" : s.motions.get(m).text, farm, week, k);
        return v == null || v < 0 ? 0 : Math.min(v, 1000000000L);
    }

    public long pay(int week, int farm, int k) {
        if (!week(week) || !in(farm, s.farms) || !day(k)) return BAD;
        int n = s.farms.size();
        BigInteger pence = BigInteger.valueOf(money(week, k)), all = BigInteger.ZERO;
        long[] paid = new long[n];
        BigInteger[] shares = new BigInteger[n], off = new BigInteger[n];
        for (int f = 0; f < n; f++) { shares[f] = BigInteger.valueOf(share(week, f, k)); all = all.add(shares[f]); }
        if (all.signum() == 0) return 0;
        long left = pence.longValue();
        for (int f = 0; f < n; f++) {
            BigInteger[] qr = pence.multiply(shares[f]).divideAndRemainder(all);
            paid[f] = qr[0].longValue();
            off[f] = qr[1];
            left -= paid[f];
        }
        boolean[] served = new boolean[n];
        for (; left > 0; left--) {
            int best = NONE;
            for (int f = 0; f < n; f++) if (!served[f] && (best == NONE || off[f].compareTo(off[best]) > 0)) best = f;
            served[best] = true;
            paid[best]++;
        }
        return paid[farm];
    }

    public int watered(int farm, int week, int k) {
        if (!in(farm, s.farms) || !week(week) || !day(k)) return BAD;
        List<Integer> before = new ArrayList<>(), there = new ArrayList<>(), days = new ArrayList<>();
        for (int t = 0; t < s.tests.size(); t++) {
            Test test = s.tests.get(t);
            Integer r = rateAt(t, k);
            if (test.farm != farm || r == null) continue;
            if (test.day < 7 * week) before.add(r);
            else if (test.day <= 7 * week + 6) { there.add(r); days.add(test.day); }
        }
        if (before.size() < 3) return 0;
        int mean = before.stream().mapToInt(Integer::intValue).sum() / before.size();
        int signs = 0;
        java.util.Set<Integer> on = new java.util.HashSet<>();
        for (int i = 0; i < there.size(); i++) if (there.get(i) <= mean - 40) { signs++; on.add(days.get(i)); }
        return signs >= 2 && on.size() >= 2 && signs * 2 >= there.size() ? signs : 0;
    }

    public int sour(int minutes) {
        if (!in(minutes, 1, 2000)) return BAD;
        int was = s.sour;
        s.sour = minutes;
        return was;
    }

    private int bestMiles;
    private List<Integer> bestOrder;

    private int miles(int x, int y, int u, int v) { return Math.abs(x - u) + Math.abs(y - v); }

    private void drive(List<Integer> order, List<Integer> left) {
        if (!left.isEmpty()) {
            for (int i = 0; i < left.size(); i++) {
                List<Integer> rest = new ArrayList<>(left);
                order.add(rest.remove(i));
                drive(order, rest);
                order.remove(order.size() - 1);
            }
            return;
        }
        // The clock of the whole drive; each FARM's CANS leave it with the cart.
        int x = 100, y = 100, clock = 0, all = 0;
        int[] left5 = new int[order.size()];
        for (int i = 0; i < order.size(); i++) {
            Farm f = s.farms.get(order.get(i));
            all += miles(x, y, f.x, f.y);
            clock += 3 * miles(x, y, f.x, f.y) + 5;
            left5[i] = clock;
            x = f.x; y = f.y;
        }
        all += miles(x, y, 100, 100);
        clock += 3 * miles(x, y, 100, 100);
        for (int t : left5) if (clock - t > s.sour) return;
        // Orders come as numbers grow, so that the first of like ones stays.
        if (bestOrder == null || all < bestMiles) { bestMiles = all; bestOrder = new ArrayList<>(order); }
    }

    private int drive(int set) {
        if (set < 0 || (long) set >= 1L << s.farms.size()) return BAD;
        if (Integer.bitCount(set) > 8) return NO;
        List<Integer> stops = new ArrayList<>();
        for (int f = 0; f < 20; f++) if ((set >> f & 1) == 1) stops.add(f);
        bestOrder = null;
        bestMiles = NONE;
        drive(new ArrayList<>(), stops);
        return bestOrder == null ? NONE : bestMiles;
    }

    public int route(int set) { return drive(set); }

    public int routeAt(int set, int i) {
        int miles = drive(set);
        if (miles == BAD || i < 0) return BAD;
        if (miles == NO) return NO;
        return bestOrder == null || i >= bestOrder.size() ? NONE : bestOrder.get(i);
    }

    public int cream(int fat, int heat, int age) {
        if (!in(fat, 1, 1000000) || !in(heat, 40, 80) || !in(age, 0, 9)) return BAD;
        if (s.creams.size() == 10) return FULL;
        s.creams.add(new int[] {fat, heat, age});
        return s.creams.size() - 1;
    }

    public int drain() {
        int were = s.creams.size();
        s.creams.clear();
        return were;
    }

    private long leastLoss;
    private int leastHeaps;
    private int[] leastRow;

    private void part(int[] row, int next, int k) {
        if (next < row.length) {
            for (int heap = 0; heap <= next; heap++) {
                int in = 0;
                for (int i = 0; i < next; i++) if (row[i] == heap) in++;
                if (heap < next && in == 0 || in == k) continue;
                row[next] = heap;
                part(row, next + 1, k);
            }
            return;
        }
        long loss = 0;
        int heaps = 0;
        for (int heap = 0; heap < row.length; heap++) {
            if (row[heap] != heap) continue;
            heaps++;
            long fat = 0;
            int heat = 0, many = 0, age = 0, low = 999, high = 0;
            for (int i = 0; i < row.length; i++) {
                if (row[i] != heap) continue;
                int[] c = s.creams.get(i);
                fat += c[0]; heat += c[1]; many++;
                age = Math.max(age, c[2]); low = Math.min(low, c[1]); high = Math.max(high, c[1]);
            }
            loss += Math.min(1000, 5 + 2 * Math.abs(heat / many - 55) + 10 * age + high - low) * fat / 1000;
        }
        boolean better = leastRow == null || loss < leastLoss || loss == leastLoss && heaps < leastHeaps
            || loss == leastLoss && heaps == leastHeaps && Arrays.compare(row, leastRow) < 0;
        if (better) { leastLoss = loss; leastHeaps = heaps; leastRow = row.clone(); }
    }

    public long together(int k) {
        if (!in(k, 1, 5)) return BAD;
        leastRow = null;
        part(new int[s.creams.size()], 0, k);
        return leastLoss;
    }

    public int heap(int k, int cream) {
        if (!in(k, 1, 5) || !in(cream, s.creams)) return BAD;
        together(k);
        return leastRow[cream];
    }

    public int gives(int week, int v) {
        if (!in(week, 0, 51) || !in(v, 0, 500)) return BAD;
        int was = s.yields[week];
        s.yields[week] = v;
        return was;
    }

    public int calved(int farm, int week, int cows) {
        if (!in(farm, s.farms) || !in(week, -51, 27) || !in(cows, 1, 60)) return BAD;
        if (s.calved.size() == 40) return FULL;
        s.calved.add(new int[] {farm, week, cows});
        return s.calved.size();
    }

    public int foretold(int farm, int week) {
        if (!in(farm, s.farms) || !week(week)) return BAD;
        int sum = 0;
        for (int[] row : s.calved) {
            for (int behind = 0; behind <= 51; behind++) {
                if (row[0] == farm && row[1] + behind == week) sum += row[2] * s.yields[behind];
            }
        }
        return sum;
    }

    public int site(int x, int y, int cost) {
        if (!in(x, 0, 200) || !in(y, 0, 200) || !in(cost, 0, 1000000)) return BAD;
        if (s.sites.size() == 6) return FULL;
        Site t = new Site();
        t.x = x; t.y = y; t.cost = cost;
        s.sites.add(t);
        return s.sites.size() - 1;
    }

    public int freight(int rate) {
        if (!in(rate, 0, 100)) return BAD;
        int was = s.freight;
        s.freight = rate;
        return was;
    }

    private int near(int farm, int set) {
        Farm f = s.farms.get(farm);
        for (int d = 0; ; d++) {
            for (int i = 0; i < s.sites.size(); i++) {
                if ((set >> i & 1) == 1 && miles(f.x, f.y, s.sites.get(i).x, s.sites.get(i).y) == d) return i;
            }
        }
    }

    public long open(int what) {
        if (!in(what, 0, 1)) return BAD;
        if (s.sites.isEmpty()) return NO;
        long best = Long.MAX_VALUE;
        int bestSet = 0;
        for (int set = (1 << s.sites.size()) - 1; set > 0; set--) {
            long cost = 0;
            for (int i = 0; i < s.sites.size(); i++) if ((set >> i & 1) == 1) cost += s.sites.get(i).cost;
            for (int f = 0; f < s.farms.size(); f++) {
                Site t = s.sites.get(near(f, set));
                Farm g = s.farms.get(f);
                cost += (long) s.freight * g.cows * miles(g.x, g.y, t.x, t.y);
            }
            if (cost <= best) { best = cost; bestSet = set; }
        }
        return what == 0 ? bestSet : best;
    }

    public int nearest(int farm, int set) {
        if (!in(farm, s.farms) || set <= 0 || (long) set >= 1L << s.sites.size()) return BAD;
        return near(farm, set);
    }

    public int loan(int sum, int rate, int part) {
        if (!in(sum, 1, 1000000) || !in(rate, 0, 100) || !in(part, 1, 100000)) return BAD;
        if (s.loans.size() == 6) return FULL;
        s.loans.add(new int[] {sum, rate, part});
        return s.loans.size() - 1;
    }

    public long owed(int loan, int n) {
        if (!in(loan, s.loans) || !in(n, 0, 1000)) return BAD;
        int[] l = s.loans.get(loan);
        long owed = l[0];
        for (int i = 0; i < n; i++) {
            long more = owed * l[1];
            owed += more % 1000 == 0 ? more / 1000 : more / 1000 + 1;
            if (owed > 1000000000000L) owed = 1000000000000L;
            owed = owed > l[2] ? owed - l[2] : 0;
        }
        return owed;
    }

    public int ends(int loan) {
        if (!in(loan, s.loans)) return BAD;
        for (int n = 1; n <= 1000; n++) if (owed(loan, n) == 0) return n;
        return NONE;
    }

    public int image(int i) {
        if (!in(i, 0, 1)) return BAD;
        images[i] = s.copy();
        return 1;
    }

    public int from(int i) {
        if (!in(i, 0, 1)) return BAD;
        if (images[i] == null) return NO;
        s = images[i].copy();
        return 1;
    }

    public int count(int what) {
        if (!in(what, 0, 9)) return BAD;
        return List.of(s.farms, s.cans, s.tests, s.churns, s.boxes, s.motions, s.creams, s.calved, s.sites, s.loans).get(what).size();
    }

    public long digest() {
        List<Integer> v = new ArrayList<>();
        for (int i = 0; i < 10; i++) v.add(count(i));
        for (Farm f : s.farms) v.addAll(List.of(f.x, f.y, f.cows, f.member ? 1 : 0));
        for (Can c : s.cans) v.addAll(List.of(c.farm, c.day, c.weight, c.churn));
        for (Test t : s.tests) v.addAll(List.of(t.farm, t.day, t.hand, t.v, t.known, t.right, t.rightKnown));
        for (int b : s.bias) v.add(b);
        v.add(s.period);
        for (Churn c : s.churns) v.addAll(List.of(c.day, c.heat, c.out));
        for (Box b : s.boxes) v.addAll(List.of(b.churn, b.pence, b.known, b.grades[0], b.grades[1]));
        for (String t : s.texts) { v.add(t.length()); for (char c : t.toCharArray()) v.add((int) c); }
        for (int m = 0; m < s.motions.size(); m++) for (int i = 0; i < 5; i++) v.add(motionAt(m, i));
        long h = 281;
        for (int i : v) h = 31 * h + i;
        return h;
    }
}
