/** Promises 34 to 41: watered, carts, creams. */
public final class CartsTest {
    private static final int NONE = CountyCream.NONE, BAD = CountyCream.BAD, NO = CountyCream.NO;
    private static final int FULL = CountyCream.FULL, LAST = CountyCream.LAST;

    public static void main(String[] args) {
        watered();
        sour();
        routes();
        orders();
        souring();
        manyFarms();
        creams();
        heaps();
        likeHeaps();
        wholeRows();
        Due.end();
    }

    /** One FARM with TESTS of mean 350 (1052 by 3, cut) in week 0. */
    private static CountyCream withTests(int... daysAndNumbers) {
        CountyCream x = new CountyCream();
        x.farm(100, 100, 1, true);
        x.farm(100, 100, 1, true);
        x.test(0, 0, 0, 350, 0);
        x.test(0, 3, 0, 350, 3);
        x.test(0, 6, 0, 352, 6);
        for (int i = 0; i < daysAndNumbers.length; i += 2) x.test(0, daysAndNumbers[i], 0, daysAndNumbers[i + 1], daysAndNumbers[i]);
        return x;
    }

    private static void water(String what, int want, int... daysAndNumbers) {
        Due.due("34 " + what, withTests(daysAndNumbers).watered(0, 1, 195), want);
    }

    private static void watered() {
        water("two by 40", 2, 7, 310, 8, 310);
        water("one by 39", 0, 7, 310, 8, 311);
        water("one sign", 0, 7, 100);
        water("one day", 0, 7, 300, 7, 300);
        water("two days of three", 3, 7, 300, 7, 300, 13, 300);
        water("just half", 2, 7, 300, 8, 300, 9, 400, 10, 400);
        water("less than half", 0, 7, 300, 8, 300, 9, 400, 10, 400, 11, 400);
        water("another week", 0, 7, 300, 14, 300);
        water("LAST is a sign too", 2, 7, 300, 8, LAST);
        Due.due("34 no earlier tests", withTests(7, 1, 8, 1).watered(0, 0, 195), 0);
        CountyCream x = withTests(7, 300, 8, 300);
        Due.due("34 not known", x.watered(0, 1, 7), 0);
        Due.due("34 known", x.watered(0, 1, 8), 2);
        Due.due("34 another farm", x.watered(1, 1, 8), 0);
        x.bias(0, 50);
        Due.due("34 all of one hand", x.watered(0, 1, 8), 2);
        x.test(0, 9, 1, 311, 9);
        Due.due("34 by rates", x.watered(0, 1, 9), 2);
        x.test(0, 10, 1, 260, 10);
        Due.due("34 by rates", x.watered(0, 1, 10), 3);
        x.right(0, 1, 20);
        Due.due("34 as known", x.watered(0, 1, 19), 3);
        Due.due("34 as known", x.watered(0, 1, 20), 0);
        CountyCream z = new CountyCream();
        z.farm(1, 1, 1, true);
        for (int day : new int[] {7, 8}) z.test(0, day, 0, 300, day);
        for (int day : new int[] {0, 1, 2}) z.test(0, day, 0, 340, day);
        Due.due("34 in any order", z.watered(0, 1, 195), 2);
        CountyCream y = new CountyCream();
        y.farm(1, 1, 1, true);
        y.test(0, 0, 0, 900, 0);
        y.test(0, 1, 0, 900, 0 + 1);
        y.test(0, 7, 0, 1, 7);
        y.test(0, 8, 0, 1, 8);
        Due.due("34 two tests are too few", y.watered(0, 1, 195), 0);
        y.test(0, 2, 0, 900, 100);
        Due.due("34 the third is not known", y.watered(0, 1, 99), 0);
        Due.due("34 three", y.watered(0, 1, 100), 2);
        Due.due("34 BAD farm", x.watered(2, 0, 0), BAD);
        Due.due("34 BAD farm", x.watered(-1, 0, 0), BAD);
        Due.due("34 BAD week", x.watered(0, 28, 0), BAD);
        Due.due("34 BAD week", x.watered(0, -1, 0), BAD);
        Due.due("34 BAD K", x.watered(0, 0, 196), BAD);
        Due.due("34 BAD K", x.watered(0, 0, -1), BAD);
    }

    private static void sour() {
        CountyCream x = new CountyCream();
        Due.due("35 first", x.sour(1), 300);
        Due.due("35 most", x.sour(2000), 1);
        Due.due("35 BAD", x.sour(0), BAD);
        Due.due("35 BAD", x.sour(2001), BAD);
        Due.due("35 kept", x.sour(5), 2000);
    }

    private static CountyCream withFarms(int... places) {
        CountyCream x = new CountyCream();
        for (int i = 0; i < places.length; i += 2) x.farm(places[i], places[i + 1], 1, true);
        return x;
    }

    private static void routes() {
        CountyCream x = withFarms(110, 100, 100, 95, 100, 100);
        Due.due("36 of none", x.route(0), 0);
        Due.due("36 one", x.route(1), 20);
        Due.due("36 two", x.route(3), 30);
        Due.due("36 at the creamery", x.route(4), 0);
        Due.due("36 all", x.route(7), 30);
        Due.due("36 BAD", x.route(8), BAD);
        Due.due("36 BAD", x.route(-1), BAD);
        Due.due("36 BAD", x.route(Integer.MIN_VALUE), BAD);
        Due.due("36 BAD", new CountyCream().route(1), BAD);
        Due.due("36 of none", new CountyCream().route(0), 0);
        Due.due("37 of none", x.routeAt(0, 0), NONE);
        Due.due("37 BAD", x.routeAt(8, 0), BAD);
        Due.due("37 BAD", x.routeAt(-1, 0), BAD);
        Due.due("37 BAD", x.routeAt(1, -1), BAD);
        Due.due("37 not so many", x.routeAt(1, 1), NONE);
        Due.due("37 not so many", x.routeAt(1, Integer.MAX_VALUE), NONE);
    }

    private static void expectRoute(CountyCream x, int set, int miles, int... order) {
        Due.due("36 miles", x.route(set), miles);
        for (int i = 0; i < order.length; i++) Due.due("37 stop " + i, x.routeAt(set, i), order[i]);
        Due.due("37 not so many", x.routeAt(set, order.length), NONE);
    }

    private static void orders() {
        // A square: all four ways round have 80 miles, of like ones the first by numbers.
        expectRoute(withFarms(120, 120, 100, 120, 120, 100), 7, 80, 1, 0, 2);
        expectRoute(withFarms(100, 120, 120, 120, 120, 100), 7, 80, 0, 1, 2);
        expectRoute(withFarms(110, 100, 120, 100, 130, 100), 7, 60, 0, 1, 2);
        // The least order is not the first: 0 lies between.
        expectRoute(withFarms(100, 110, 100, 120, 120, 100), 6, 80, 1, 2);
        expectRoute(withFarms(120, 100, 100, 120, 120, 120), 7, 80, 0, 2, 1);
        // 0, 1, 2 and 0, 2, 1 are alike: 11 and 2 and 1 and 10, 11 and 1 and 1 and 11.
        expectRoute(withFarms(101, 110, 99, 110, 100, 110), 7, 24, 0, 1, 2);
    }

    /** The first FARM's CANS ride from its end to the creamery: 3 minutes a mile, 5 at each later FARM. */
    private static void souring() {
        CountyCream x = withFarms(100, 140, 110, 100);
        // 0 first: 50 + 10 miles and a stop are 185 minutes; 1 first: 50 + 40 and a stop are 275.
        expectRoute(x, 3, 100, 0, 1);
        x.sour(185);
        expectRoute(x, 3, 100, 0, 1);
        x.sour(184);
        Due.due("36 sour", x.route(3), NONE);
        Due.due("37 sour", x.routeAt(3, 0), NONE);
        Due.due("37 BAD, though sour", x.routeAt(3, -1), BAD);
        expectRoute(x, 1, 80, 0);
        x.sour(120);
        expectRoute(x, 1, 80, 0);
        x.sour(119);
        Due.due("36 sour alone", x.route(1), NONE);
        Due.due("36 the other", x.route(2), 20);
        Due.due("36 of none", x.route(0), 0);
        // The fewest miles go by 0 first and turn sour, so the far farm is first.
        CountyCream y = withFarms(110, 100, 150, 100);
        expectRoute(y, 3, 100, 0, 1);
        y.sour(275);
        expectRoute(y, 3, 100, 0, 1);
        y.sour(274);
        expectRoute(y, 3, 100, 1, 0);
        // More miles, but fewer with cans: 160 of any start, 1 first is home soonest.
        CountyCream z = withFarms(100, 105, 130, 100, 130, 105);
        expectRoute(z, 7, 70, 0, 2, 1);
        z.sour(3 * 65 + 9);
        expectRoute(z, 7, 70, 1, 2, 0);
        z.sour(3 * 40 + 10);
        expectRoute(z, 7, 70, 1, 2, 0);
        z.sour(3 * 40 + 9);
        Due.due("36 sour", z.route(7), NONE);
        // Only an order of more miles is home in time.
        CountyCream w = withFarms(100, 110, 100, 140, 100, 90);
        expectRoute(w, 7, 100, 0, 1, 2);
        w.sour(3 * 60 + 10);
        expectRoute(w, 7, 100, 1, 0, 2);
        w.sour(3 * 60 + 9);
        Due.due("36 sour", w.route(7), NONE);
    }

    private static void manyFarms() {
        CountyCream x = new CountyCream();
        for (int i = 0; i < 20; i++) x.farm(100 + i, 100, 1, true);
        expectRoute(x, 0xFF, 14, 0, 1, 2, 3, 4, 5, 6, 7);
        expectRoute(x, 0xFF000, 38, 12, 13, 14, 15, 16, 17, 18, 19);
        Due.due("36 NO", x.route(0x1FF), NO);
        Due.due("37 NO", x.routeAt(0x1FF, 0), NO);
        Due.due("36 NO of all", x.route(0xFFFFF), NO);
        Due.due("36 BAD before NO", x.route(0x1FFFFF), BAD);
        Due.due("37 BAD before NO", x.routeAt(0x1FF, -1), BAD);
    }

    private static void creams() {
        CountyCream x = new CountyCream();
        Due.due("38 first", x.cream(1, 40, 0), 0);
        Due.due("38 most", x.cream(1000000, 80, 9), 1);
        int[][] wrong = {{0, 50, 0}, {1000001, 50, 0}, {1, 39, 0}, {1, 81, 0}, {1, 50, -1}, {1, 50, 10}};
        for (int[] w : wrong) Due.due("38 BAD", x.cream(w[0], w[1], w[2]), BAD);
        for (int i = 2; i < 10; i++) Due.due("38 next", x.cream(1, 50, 0), i);
        Due.due("38 FULL", x.cream(1, 50, 0), FULL);
        Due.due("38 BAD before FULL", x.cream(1, 39, 0), BAD);
        Due.due("38 count", x.count(6), 10);
        Due.due("39 drain", x.drain(), 10);
        Due.due("39 again", x.drain(), 0);
        Due.due("40 of none", x.together(1), 0);
        Due.due("41 BAD cream", x.heap(1, 0), BAD);
        Due.due("38 first again", x.cream(1, 50, 0), 0);
    }

    private static CountyCream withCreams(int... numbers) {
        CountyCream x = new CountyCream();
        for (int i = 0; i < numbers.length; i += 3) x.cream(numbers[i], numbers[i + 1], numbers[i + 2]);
        return x;
    }

    private static void expectHeaps(String what, CountyCream x, int k, long loss, int... heaps) {
        Due.due("40 " + what, x.together(k), loss);
        for (int i = 0; i < heaps.length; i++) Due.due("41 " + what + " " + i, x.heap(k, i), heaps[i]);
        Due.due("41 BAD", x.heap(k, heaps.length), BAD);
    }

    private static void heaps() {
        CountyCream x = withCreams(1000, 58, 2);
        Due.due("40 BAD", x.together(0), BAD);
        Due.due("40 BAD", x.together(6), BAD);
        Due.due("41 BAD k", x.heap(0, 0), BAD);
        Due.due("41 BAD k", x.heap(6, 0), BAD);
        Due.due("41 BAD cream", x.heap(1, -1), BAD);
        expectHeaps("one", x, 1, 5 + 6 + 20, 0);
        expectHeaps("one, cut", withCreams(999, 50, 0), 5, 14, 0);
        expectHeaps("dearest", withCreams(1000000, 80, 9), 1, 145000, 0);
        // Apart 15 and 15, together (heats 50 and 60, mean 55) 5 + 10.
        expectHeaps("cold and hot", withCreams(1000, 50, 0, 1000, 60, 0), 1, 30, 0, 1);
        expectHeaps("cold and hot, fewest", withCreams(1000, 50, 0, 1000, 60, 0), 2, 30, 0, 0);
        // The mean of 50 and 61 is 55 (cut), of 49 and 60 it is 54 (cut).
        expectHeaps("mean cut", withCreams(1000, 50, 0, 1000, 61, 0), 2, 32, 0, 0);
        expectHeaps("mean cut", withCreams(1000, 49, 0, 1000, 60, 0), 2, 32, 0, 1);
        expectHeaps("old one stays alone", withCreams(1000, 55, 0, 1000, 55, 9, 1000, 55, 0), 5, 5 + 95 + 5, 0, 1, 0);
        expectHeaps("at most k", withCreams(1000, 55, 0, 1000, 55, 0, 1000, 55, 0), 2, 15, 0, 0, 2);
        expectHeaps("at most 5", withCreams(1000, 55, 0, 1000, 55, 0, 1000, 55, 0, 1000, 55, 0, 1000, 55, 0, 1000, 55, 0),
            5, 30, 0, 0, 0, 0, 0, 5);
        // Cuts: 1 unit each loses nothing alone, 200 units together lose 1.
        expectHeaps("cuts", withCreams(100, 55, 0, 100, 55, 0), 2, 0, 0, 1);
        expectHeaps("cuts, fewest", withCreams(99, 55, 0, 100, 55, 0), 2, 0, 0, 0);
    }

    private static void likeHeaps() {
        // 99 and 100 lose nothing together, 100 and 100 lose 1: 0 1 0 1 is ahead of 0 1 1 0, 0 0 2 3 has more heaps.
        expectHeaps("like ones", withCreams(99, 55, 0, 99, 55, 0, 100, 55, 0, 100, 55, 0), 2, 0, 0, 1, 0, 1);
        expectHeaps("like ones", withCreams(99, 55, 0, 99, 55, 0, 99, 55, 0, 99, 55, 0), 5, 0, 0, 0, 2, 2);
        expectHeaps("like ones", withCreams(99, 55, 0, 100, 55, 0, 100, 55, 0, 99, 55, 0), 2, 0, 0, 0, 2, 2);
    }

    /** The heap of CREAM 0 alone does not tell which row is first: 0, 1, 1, .. is ahead of 0, 1, 2, .. */
    private static void wholeRows() {
        CountyCream x = withCreams(100, 56, 1, 225, 58, 0, 100, 56, 0, 512409, 65, 4, 100, 57, 1, 423657, 54, 2);
        for (int k = 1; k <= 5; k++) {
            NaiveCream y = new NaiveCream();
            int[][] creams = {{100, 56, 1}, {225, 58, 0}, {100, 56, 0}, {512409, 65, 4}, {100, 57, 1}, {423657, 54, 2}};
            for (int[] c : creams) y.cream(c[0], c[1], c[2]);
            Due.due("40 k " + k, x.together(k), y.together(k));
            for (int cream = 0; cream < 6; cream++) Due.due("41 k " + k, x.heap(k, cream), y.heap(k, cream));
        }
        for (int seed = 1; seed <= 60; seed++) {
            CountyCream a = new CountyCream();
            NaiveCream b = new NaiveCream();
            for (int i = 0; i < 8; i++) {
                int fat = 60 + (seed * 37 + i * i * 11) % 120;
                int heat = 54 + (seed + i * 5) % 4;
                int age = (seed * i) % 3 / 2;
                a.cream(fat, heat, age);
                b.cream(fat, heat, age);
            }
            int k = 2 + seed % 4;
            Due.due("40 small creams " + seed, a.together(k), b.together(k));
            for (int cream = 0; cream < 8; cream++) Due.due("41 small creams " + seed, a.heap(k, cream), b.heap(k, cream));
        }
    }
}
