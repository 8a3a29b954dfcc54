import java.util.Random;

/**
 * What OracleTest seldom fills: carts of six to eight FARMS, days of seven to ten CREAMS, weeks of up to twenty FARMS
 * that are paid, all with many of like ones. The seeds are fixed: each run comes again.
 */
public final class DenseTest {
    private static final String[] RULES = {
        "w", "n", "1", "f*1000", "999999*1001", "r", "3-r", "w/(r-1)", "o?w:n", "c*m", "t<1|w>300", "0-1", "w*n+f/(o-2)",
        "!r&n", "-r+n*w", "m?w:1/0", "w>5*n?f:w",
    };

    private final Random random;
    private final CountyCream ours = new CountyCream();
    private final NaiveCream naive = new NaiveCream();

    private DenseTest(long seed) {
        random = new Random(seed);
    }

    private int between(int least, int most) {
        return least + random.nextInt(most - least + 1);
    }

    private int oneOf(int... those) {
        return those[random.nextInt(those.length)];
    }

    private void carts() {
        int farms = between(6, 9);
        int far = oneOf(2, 4, 10, 40, 100);
        for (int i = 0; i < farms; i++) {
            int x = between(100 - far, 100 + far);
            int y = between(100 - far, 100 + far);
            Due.due("farm", ours.farm(x, y, 1, true), naive.farm(x, y, 1, true));
        }
        int set = 0;
        int stops = Math.min(farms, between(6, 8));
        while (Integer.bitCount(set) < stops) set |= 1 << random.nextInt(farms);
        int whole = naive.route(set);
        for (int i = 0; i < 3; i++) {
            oneCart(set, stops);
            // About as long as what is left behind the first FARM, so that some orders are back in time and some not.
            int minutes = Math.max(1, Math.min(2000, 3 * whole * between(50, 110) / 100));
            Due.due("sour", ours.sour(minutes), naive.sour(minutes));
        }
    }

    private void oneCart(int set, int stops) {
        Due.due("route(" + set + ")", ours.route(set), naive.route(set));
        for (int i = 0; i <= stops; i += between(1, 3)) {
            Due.due("routeAt(" + set + ", " + i + ")", ours.routeAt(set, i), naive.routeAt(set, i));
        }
    }

    private void creams() {
        int creams = between(7, 10);
        int fat = oneOf(1, 3, 30, 200, 1000, 1000000);
        int warm = oneOf(1, 2, 4, 12);
        int old = between(0, 2);
        for (int i = 0; i < creams; i++) {
            int own = between(1, fat);
            int heat = between(55 - warm, 55 + warm);
            int age = between(0, old);
            Due.due("cream", ours.cream(own, heat, age), naive.cream(own, heat, age));
        }
        int k = between(1, 5);
        Due.due("together(" + k + ")", ours.together(k), naive.together(k));
        for (int i = between(0, 2); i < creams; i += between(1, 3)) {
            Due.due("heap(" + k + ", " + i + ")", ours.heap(k, i), naive.heap(k, i));
        }
    }

    private void pay() {
        int farms = between(1, 20);
        for (int i = 0; i < farms; i++) {
            int cows = between(0, 60);
            boolean member = random.nextBoolean();
            Due.due("farm", ours.farm(i, i, cows, member), naive.farm(i, i, cows, member));
        }
        int churns = between(1, 3);
        for (int i = 0; i < churns; i++) churnWithBoxes(i);
        int heavy = oneOf(1, 3, 1000);
        for (int i = 0; i < 30; i++) canOf(between(0, farms - 1), between(0, 13), between(1, heavy), between(0, churns - 1));
        for (int i = 0; i < 20; i++) testOf(between(0, farms - 1), between(0, 13));
        rule(farms);
        for (int week = 0; week < 2; week++) {
            for (int k = 5; k <= 15; k += 5) paid(week, farms, k);
        }
    }

    private void churnWithBoxes(int churn) {
        int day = between(0, 13);
        Due.due("churn", ours.churn(day, 50), naive.churn(day, 50));
        for (int i = between(1, 3); i > 0; i--) {
            int box = naive.box(churn);
            Due.due("box", ours.box(churn), box);
            int pence = between(0, oneOf(30, 1000000));
            int known = between(day, day + 2);
            Due.due("sell", ours.sell(box, pence, known), naive.sell(box, pence, known));
        }
    }

    private void canOf(int farm, int day, int weight, int churn) {
        int can = naive.can(farm, day, weight);
        Due.due("can", ours.can(farm, day, weight), can);
        Due.due("fill", ours.fill(churn, can), naive.fill(churn, can));
    }

    private void testOf(int farm, int day) {
        int hand = between(0, 3);
        int v = random.nextInt(5) == 0 ? CountyCream.LAST : between(0, 1000);
        int known = between(day, day + 2);
        Due.due("test", ours.test(farm, day, hand, v, known), naive.test(farm, day, hand, v, known));
    }

    /** One in five weeks is paid by f, as no MOTION is passed. */
    private void rule(int farms) {
        for (char c : RULES[random.nextInt(RULES.length)].toCharArray()) Due.due("write", ours.write(0, c), naive.write(0, c));
        boolean byCows = random.nextBoolean();
        int from = between(0, 8);
        Due.due("motion", ours.motion(0, from, byCows), naive.motion(0, from, byCows));
        int how = random.nextInt(5) == 0 ? -1 : 1;
        for (int farm = 0; farm < farms; farm++) Due.due("vote", ours.vote(0, farm, how), naive.vote(0, farm, how));
    }

    private void paid(int week, int farms, int k) {
        long sum = 0;
        for (int farm = 0; farm < farms; farm++) {
            String call = "(" + week + ", " + farm + ", " + k + ")";
            long pence = ours.pay(week, farm, k);
            Due.due("pay" + call, pence, naive.pay(week, farm, k));
            Due.due("share" + call, ours.share(week, farm, k), naive.share(week, farm, k));
            sum += pence;
        }
        Due.due("paid to the last penny", sum == 0 || sum == ours.money(week, k));
    }

    public static void main(String[] args) {
        for (int seed = 0; seed < 60; seed++) {
            new DenseTest(seed).carts();
            new DenseTest(seed).creams();
            new DenseTest(seed).pay();
        }
        Due.end();
    }
}
