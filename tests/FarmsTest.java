/** Promises 1 to 11: farms, cans, tests. */
public final class FarmsTest {
    private static final int NONE = CountyCream.NONE, BAD = CountyCream.BAD, NO = CountyCream.NO;
    private static final int FULL = CountyCream.FULL, LAST = CountyCream.LAST;

    public static void main(String[] args) {
        newObject();
        farms();
        cans();
        tests();
        rightings();
        biasAndPeriod();
        rates();
        ratesOfLast();
        canRates();
        fats();
        Due.end();
    }

    private static void newObject() {
        CountyCream x = new CountyCream();
        for (int what = 0; what <= 9; what++) Due.due("1 count " + what, x.count(what), 0);
        Due.due("1 L", x.period(7), 7);
        Due.due("1 SOUR", x.sour(300), 300);
        Due.due("1 RATE", x.freight(1), 1);
        for (int hand = 0; hand < 4; hand++) Due.due("1 bias", x.bias(hand, 0), 0);
        for (int week = 0; week < 52; week++) Due.due("1 yield", x.gives(week, 0), 0);
        for (int text = 0; text < 6; text++) Due.due("1 text", x.erase(text), 0);
        Due.due("1 image", x.from(0), NO);
        Due.due("1 image", x.from(1), NO);
    }

    private static void farms() {
        CountyCream x = new CountyCream();
        Due.due("2 first", x.farm(0, 0, 0, false), 0);
        Due.due("2 most", x.farm(200, 200, 60, true), 1);
        int[][] wrong = {{-1, 0, 0}, {201, 0, 0}, {0, -1, 0}, {0, 201, 0}, {0, 0, -1}, {0, 0, 61}};
        for (int[] w : wrong) Due.due("2 BAD", x.farm(w[0], w[1], w[2], true), BAD);
        Due.due("2 BAD changes nothing", x.count(0), 2);
        for (int i = 2; i < 20; i++) Due.due("2 next", x.farm(i, i, i, true), i);
        Due.due("2 FULL", x.farm(1, 1, 1, true), FULL);
        Due.due("2 BAD before FULL", x.farm(1, 1, 61, true), BAD);
        Due.due("2 count", x.count(0), 20);

        Due.due("3 change", x.change(0, 60, true), 1);
        Due.due("3 last", x.change(19, 0, false), 1);
        Due.due("3 BAD farm", x.change(20, 1, true), BAD);
        Due.due("3 BAD farm", x.change(-1, 1, true), BAD);
        Due.due("3 BAD cows", x.change(0, 61, true), BAD);
        Due.due("3 BAD cows", x.change(0, -1, true), BAD);
        x.write(0, 'c');
        x.write(1, 'm');
        Due.due("3 cows", x.tells(0, 0, 0, 0), 60);
        Due.due("3 member", x.tells(1, 0, 0, 0), 1);
        Due.due("3 no member", x.tells(1, 19, 0, 0), 0);
    }

    private static void cans() {
        CountyCream x = new CountyCream();
        Due.due("4 no farm", x.can(0, 0, 1), BAD);
        x.farm(1, 1, 1, true);
        Due.due("4 first", x.can(0, 0, 1), 0);
        Due.due("4 most", x.can(0, 195, 1000), 1);
        Due.due("4 BAD farm", x.can(1, 0, 1), BAD);
        Due.due("4 BAD farm", x.can(-1, 0, 1), BAD);
        Due.due("4 BAD day", x.can(0, -1, 1), BAD);
        Due.due("4 BAD day", x.can(0, 196, 1), BAD);
        Due.due("4 BAD weight", x.can(0, 0, 0), BAD);
        Due.due("4 BAD weight", x.can(0, 0, 1001), BAD);
        for (int i = 2; i < 300; i++) Due.due("4 next", x.can(0, 5, 5), i);
        Due.due("4 FULL", x.can(0, 5, 5), FULL);
        Due.due("4 BAD before FULL", x.can(0, 5, 0), BAD);
        Due.due("4 count", x.count(1), 300);
    }

    private static void tests() {
        CountyCream x = new CountyCream();
        Due.due("5 no farm", x.test(0, 0, 0, 0, 0), BAD);
        x.farm(1, 1, 1, true);
        Due.due("5 first", x.test(0, 0, 0, 0, 0), 0);
        Due.due("5 most", x.test(0, 195, 3, 1000, 195), 1);
        Due.due("5 LAST", x.test(0, 3, 3, LAST, 4), 2);
        int[][] wrong = {
            {1, 0, 0, 0, 0}, {-1, 0, 0, 0, 0}, {0, -1, 0, 0, 0}, {0, 196, 0, 0, 196}, {0, 0, -1, 0, 0}, {0, 0, 4, 0, 0},
            {0, 0, 0, -1, 0}, {0, 0, 0, -6, 0}, {0, 0, 0, -8, 0}, {0, 0, 0, 1001, 0}, {0, 5, 0, 0, 4}, {0, 5, 0, 0, 196},
        };
        for (int[] w : wrong) Due.due("5 BAD", x.test(w[0], w[1], w[2], w[3], w[4]), BAD);
        for (int i = 3; i < 200; i++) Due.due("5 next", x.test(0, 5, 1, 300, 5), i);
        Due.due("5 FULL", x.test(0, 5, 1, 300, 5), FULL);
        Due.due("5 BAD before FULL", x.test(0, 5, 1, 300, 4), BAD);
    }

    private static void rightings() {
        CountyCream x = new CountyCream();
        x.farm(1, 1, 1, true);
        x.test(0, 5, 0, 300, 10);
        x.test(0, 6, 0, LAST, 10);
        x.test(0, 7, 0, 400, 195);
        Due.due("6 BAD test", x.right(3, 1, 20), BAD);
        Due.due("6 BAD test", x.right(-1, 1, 20), BAD);
        Due.due("6 BAD LAST", x.right(0, LAST, 20), BAD);
        Due.due("6 BAD v", x.right(0, 1001, 20), BAD);
        Due.due("6 BAD v", x.right(0, -1, 20), BAD);
        Due.due("6 BAD known", x.right(0, 1, 9), BAD);
        Due.due("6 BAD known", x.right(0, 1, 196), BAD);
        Due.due("6 as early as the first", x.right(0, 380, 10), 1);
        Due.due("6 NO", x.right(0, 380, 20), NO);
        Due.due("6 BAD before NO", x.right(0, 380, 9), BAD);
        Due.due("6 rate", x.rate(0, 10), 380);
        Due.due("6 LAST is put right", x.right(1, 0, 12), 1);
        Due.due("6 before", x.rate(1, 11), 380);
        Due.due("6 behind", x.rate(1, 12), 0);
        Due.due("6 the last day", x.right(2, 1000, 195), 1);
        Due.due("6 the last day", x.rate(2, 195), 1000);
    }

    private static void biasAndPeriod() {
        CountyCream x = new CountyCream();
        Due.due("7 bias", x.bias(0, -50), 0);
        Due.due("7 bias", x.bias(0, 50), -50);
        Due.due("7 other hand", x.bias(3, 1), 0);
        Due.due("7 BAD", x.bias(4, 1), -1000);
        Due.due("7 BAD", x.bias(-1, 1), -1000);
        Due.due("7 BAD", x.bias(0, 51), -1000);
        Due.due("7 BAD", x.bias(0, -51), -1000);
        Due.due("7 kept", x.bias(0, 0), 50);
        Due.due("8 period", x.period(1), 7);
        Due.due("8 period", x.period(28), 1);
        Due.due("8 BAD", x.period(0), BAD);
        Due.due("8 BAD", x.period(29), BAD);
        Due.due("8 kept", x.period(7), 28);
    }

    private static void rates() {
        CountyCream x = new CountyCream();
        x.farm(1, 1, 1, true);
        x.test(0, 5, 0, 300, 10);
        x.test(0, 5, 1, 10, 10);
        x.test(0, 5, 2, 990, 10);
        Due.due("9 not known", x.rate(0, 9), NONE);
        Due.due("9 known", x.rate(0, 10), 300);
        Due.due("9 BAD test", x.rate(3, 10), BAD);
        Due.due("9 BAD test", x.rate(-1, 10), BAD);
        Due.due("9 BAD K", x.rate(0, -1), BAD);
        Due.due("9 BAD K", x.rate(0, 196), BAD);
        x.bias(0, 7);
        x.bias(1, 20);
        x.bias(2, -20);
        Due.due("9 less bias", x.rate(0, 10), 293);
        Due.due("9 0 at least", x.rate(1, 10), 0);
        Due.due("9 1000 at most", x.rate(2, 10), 1000);
        x.right(0, 500, 20);
        Due.due("9 as known before", x.rate(0, 19), 293);
        Due.due("9 as known behind", x.rate(0, 20), 493);
    }

    private static void ratesOfLast() {
        CountyCream x = new CountyCream();
        x.farm(1, 1, 1, true);
        x.farm(2, 2, 2, true);
        x.bias(3, 50);
        Due.due("9 last", x.test(0, 10, 3, LAST, 10), 0);
        Due.due("9 350 without bias", x.rate(0, 50), 350);
        x.test(1, 9, 0, 900, 9);
        Due.due("9 another farm's", x.rate(0, 50), 350);
        x.test(0, 11, 0, 910, 11);
        Due.due("9 behind it", x.rate(0, 50), 350);
        x.test(0, 10, 0, 920, 10);
        Due.due("9 the same day, greater number", x.rate(0, 50), 350);
        x.test(0, 4, 3, 400, 30);
        Due.due("9 not known yet", x.rate(0, 29), 350);
        Due.due("9 known, by its own hand", x.rate(0, 30), 350);
        x.test(0, 4, 0, 410, 30);
        Due.due("9 the later number", x.rate(0, 30), 410);
        x.test(0, 3, 0, 420, 3);
        Due.due("9 the later day", x.rate(0, 30), 410);
        Due.due("9 what is known", x.rate(0, 29), 420);
        x.test(0, 9, 0, LAST, 9);
        Due.due("9 LAST has no number", x.rate(0, 30), 410);
        x.right(7, 430, 40);
        Due.due("9 put right later", x.rate(0, 39), 410);
        Due.due("9 has a number now", x.rate(0, 40), 430);
        x.test(0, 10, 0, LAST, 10);
        Due.due("9 the same day, less number", x.rate(8, 40), 920);
    }

    private static void canRates() {
        CountyCream x = new CountyCream();
        x.farm(1, 1, 1, true);
        x.farm(1, 1, 1, true);
        x.can(0, 16, 10);
        Due.due("10 350", x.canRate(0, 195), 350);
        Due.due("10 BAD can", x.canRate(1, 0), BAD);
        Due.due("10 BAD can", x.canRate(-1, 0), BAD);
        Due.due("10 BAD K", x.canRate(0, -1), BAD);
        Due.due("10 BAD K", x.canRate(0, 196), BAD);
        x.test(1, 16, 0, 999, 16);
        x.test(0, 21, 0, 999, 21);
        Due.due("10 none of the farm's by then", x.canRate(0, 195), 350);
        x.test(0, 0, 0, 100, 0);
        Due.due("10 an early period", x.canRate(0, 195), 100);
        x.test(0, 7, 0, 200, 7);
        x.test(0, 13, 0, 205, 13);
        Due.due("10 the latest ahead, cut", x.canRate(0, 195), 202);
        x.test(0, 20, 0, 300, 25);
        Due.due("10 not known", x.canRate(0, 24), 202);
        Due.due("10 its own, later too", x.canRate(0, 25), 300);
        x.test(0, 14, 0, 400, 25);
        Due.due("10 together", x.canRate(0, 25), 350);
        x.period(10);
        Due.due("10 other periods", x.canRate(0, 25), (205 + 400) / 2);
        x.period(1);
        Due.due("10 days", x.canRate(0, 25), 400);
        x.period(28);
        Due.due("10 all", x.canRate(0, 25), (999 + 100 + 200 + 205 + 300 + 400) / 6);
    }

    private static void fats() {
        CountyCream x = new CountyCream();
        x.farm(1, 1, 1, true);
        x.farm(1, 1, 1, true);
        x.can(0, 6, 1000);
        x.can(0, 7, 10);
        x.can(0, 13, 20);
        x.can(1, 13, 500);
        x.can(0, 14, 900);
        x.test(0, 8, 0, 400, 9);
        Due.due("11 fat", x.fat(0, 1, 8), 30 * 350);
        Due.due("11 as known", x.fat(0, 1, 9), 30 * 400);
        Due.due("11 none", x.fat(1, 0, 9), 0);
        x.churn(20, 55);
        x.fill(0, 2);
        Due.due("11 by their own days", x.fat(0, 1, 9), 30 * 400);
        Due.due("11 the first can", x.fat(0, 0, 9), 1000 * 350);
        Due.due("11 BAD farm", x.fat(2, 0, 0), BAD);
        Due.due("11 BAD farm", x.fat(-1, 0, 0), BAD);
        Due.due("11 BAD week", x.fat(0, 28, 0), BAD);
        Due.due("11 BAD week", x.fat(0, -1, 0), BAD);
        Due.due("11 BAD K", x.fat(0, 0, 196), BAD);
        Due.due("11 BAD K", x.fat(0, 0, -1), BAD);
        x.can(0, 195, 3);
        Due.due("11 the last week", x.fat(0, 27, 195), 3 * 400);
    }
}
