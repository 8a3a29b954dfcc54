/** Promises 42 to 51: winter, sites, loans. */
public final class WinterTest {
    private static final int NONE = CountyCream.NONE, BAD = CountyCream.BAD, NO = CountyCream.NO;
    private static final int FULL = CountyCream.FULL;

    public static void main(String[] args) {
        yields();
        calvings();
        sites();
        openings();
        nearest();
        loans();
        owing();
        endings();
        Due.end();
    }

    private static void yields() {
        CountyCream x = new CountyCream();
        Due.due("42 first", x.gives(0, 500), 0);
        Due.due("42 again", x.gives(0, 0), 500);
        Due.due("42 last", x.gives(51, 7), 0);
        Due.due("42 BAD week", x.gives(52, 0), BAD);
        Due.due("42 BAD week", x.gives(-1, 0), BAD);
        Due.due("42 BAD v", x.gives(0, 501), BAD);
        Due.due("42 BAD v", x.gives(0, -1), BAD);
        Due.due("42 kept", x.gives(51, 8), 7);
    }

    private static void calvings() {
        CountyCream x = new CountyCream();
        Due.due("43 BAD farm", x.calved(0, 0, 1), BAD);
        x.farm(1, 1, 1, true);
        x.farm(1, 1, 1, true);
        for (int week = 0; week < 52; week++) x.gives(week, 100 + week);
        Due.due("43 first", x.calved(0, -51, 1), 1);
        Due.due("43 last", x.calved(0, 27, 60), 2);
        Due.due("43 BAD farm", x.calved(2, 0, 1), BAD);
        Due.due("43 BAD farm", x.calved(-1, 0, 1), BAD);
        Due.due("43 BAD week", x.calved(0, -52, 1), BAD);
        Due.due("43 BAD week", x.calved(0, 28, 1), BAD);
        Due.due("43 BAD cows", x.calved(0, 0, 0), BAD);
        Due.due("43 BAD cows", x.calved(0, 0, 61), BAD);
        Due.due("44 51 weeks behind", x.foretold(0, 0), 151);
        Due.due("44 none beyond", x.foretold(0, 1), 0);
        Due.due("44 its own week", x.foretold(0, 27), 6000);
        Due.due("44 none below 0", x.foretold(0, 26), 0);
        x.calved(0, 20, 2);
        x.calved(0, 25, 3);
        x.calved(1, 25, 5);
        Due.due("44 sum", x.foretold(0, 26), 2 * 106 + 3 * 101);
        Due.due("44 another farm", x.foretold(1, 26), 5 * 101);
        Due.due("44 BAD farm", x.foretold(2, 0), BAD);
        Due.due("44 BAD farm", x.foretold(-1, 0), BAD);
        Due.due("44 BAD week", x.foretold(0, 28), BAD);
        Due.due("44 BAD week", x.foretold(0, -1), BAD);
        for (int rows = 6; rows <= 40; rows++) Due.due("43 rows", x.calved(0, 0, 60), rows);
        Due.due("43 FULL", x.calved(0, 0, 60), FULL);
        Due.due("43 BAD before FULL", x.calved(0, 0, 61), BAD);
        Due.due("44 many", x.foretold(0, 0), 151 + 35 * 60 * 100);
    }

    private static void sites() {
        CountyCream x = new CountyCream();
        Due.due("45 first", x.site(0, 0, 0), 0);
        Due.due("45 most", x.site(200, 200, 1000000), 1);
        int[][] wrong = {{-1, 0, 0}, {201, 0, 0}, {0, -1, 0}, {0, 201, 0}, {0, 0, -1}, {0, 0, 1000001}};
        for (int[] w : wrong) Due.due("45 BAD", x.site(w[0], w[1], w[2]), BAD);
        for (int i = 2; i < 6; i++) Due.due("45 next", x.site(1, 1, 1), i);
        Due.due("45 FULL", x.site(1, 1, 1), FULL);
        Due.due("45 BAD before FULL", x.site(201, 1, 1), BAD);
        Due.due("45 count", x.count(8), 6);
        Due.due("46 first", x.freight(0), 1);
        Due.due("46 most", x.freight(100), 0);
        Due.due("46 BAD", x.freight(101), BAD);
        Due.due("46 BAD", x.freight(-1), BAD);
        Due.due("46 kept", x.freight(2), 100);
    }

    private static void expectOpen(String what, CountyCream x, long set, long cost) {
        Due.due("47 set, " + what, x.open(0), set);
        Due.due("47 cost, " + what, x.open(1), cost);
    }

    private static void openings() {
        CountyCream x = new CountyCream();
        Due.due("47 NO", x.open(0), NO);
        Due.due("47 NO", x.open(1), NO);
        Due.due("47 BAD before NO", x.open(2), BAD);
        x.site(0, 0, 30);
        x.site(100, 0, 20);
        Due.due("47 BAD", x.open(-1), BAD);
        expectOpen("without farms", x, 2, 20);
        x.site(50, 0, 20);
        expectOpen("of like ones the least set", x, 2, 20);
        x.farm(0, 1, 10, true);
        expectOpen("a farm", x, 1, 30 + 10);
        x.farm(100, 1, 2, false);
        expectOpen("two farms", x, 3, 50 + 10 + 2);
        x.freight(0);
        expectOpen("no freight", x, 2, 20);
        x.freight(3);
        expectOpen("dear freight", x, 3, 50 + 3 * 12);
        x.change(0, 0, true);
        expectOpen("no cows", x, 2, 20 + 3 * 2);
        CountyCream y = new CountyCream();
        y.farm(0, 0, 60, true);
        y.farm(200, 200, 60, true);
        y.freight(100);
        y.site(200, 200, 1000000);
        expectOpen("far", y, 1, 1000000 + 100L * 60 * 400);
        for (int i = 0; i < 5; i++) y.site(0, 0, 1000000);
        expectOpen("all alike", y, 3, 2000000);
    }

    private static void nearest() {
        CountyCream x = new CountyCream();
        x.farm(10, 10, 1, true);
        x.site(10, 14, 0);
        x.site(13, 10, 0);
        x.site(10, 7, 0);
        Due.due("48 nearest", x.nearest(0, 7), 1);
        Due.due("48 of like ones", x.nearest(0, 6), 1);
        Due.due("48 only one", x.nearest(0, 1), 0);
        Due.due("48 two", x.nearest(0, 5), 2);
        Due.due("48 BAD farm", x.nearest(1, 1), BAD);
        Due.due("48 BAD farm", x.nearest(-1, 1), BAD);
        Due.due("48 BAD set", x.nearest(0, 0), BAD);
        Due.due("48 BAD set", x.nearest(0, 8), BAD);
        Due.due("48 BAD set", x.nearest(0, 9), BAD);
        Due.due("48 BAD set", x.nearest(0, -1), BAD);
    }

    private static void loans() {
        CountyCream x = new CountyCream();
        Due.due("49 first", x.loan(1, 0, 1), 0);
        Due.due("49 most", x.loan(1000000, 100, 100000), 1);
        int[][] wrong = {{0, 0, 1}, {1000001, 0, 1}, {1, -1, 1}, {1, 101, 1}, {1, 0, 0}, {1, 0, 100001}};
        for (int[] w : wrong) Due.due("49 BAD", x.loan(w[0], w[1], w[2]), BAD);
        for (int i = 2; i < 6; i++) Due.due("49 next", x.loan(1, 1, 1), i);
        Due.due("49 FULL", x.loan(1, 1, 1), FULL);
        Due.due("49 BAD before FULL", x.loan(1, 1, 0), BAD);
        Due.due("49 count", x.count(9), 6);
    }

    private static void owing() {
        CountyCream x = new CountyCream();
        x.loan(1001, 3, 100);
        Due.due("50 at once", x.owed(0, 0), 1001);
        Due.due("50 grows, cut up", x.owed(0, 1), 1001 + 4 - 100);
        Due.due("50 again", x.owed(0, 2), 905 + 3 - 100);
        Due.due("50 paid", x.owed(0, 1000), 0);
        x.loan(1000, 3, 1);
        Due.due("50 nothing to cut", x.owed(1, 1), 1002);
        x.loan(1000000, 100, 1);
        Due.due("50 at most", x.owed(2, 1000), 1000000000000L - 1);
        x.loan(1, 0, 100000);
        Due.due("50 part is more", x.owed(3, 1), 0);
        x.loan(1001, 1, 1);
        Due.due("50 a thousandth more is cut up", x.owed(4, 1), 1001 + 2 - 1);
        Due.due("50 BAD loan", x.owed(5, 0), BAD);
        Due.due("50 BAD loan", x.owed(-1, 0), BAD);
        Due.due("50 BAD n", x.owed(0, 1001), BAD);
        Due.due("50 BAD n", x.owed(0, -1), BAD);
    }

    private static void endings() {
        CountyCream x = new CountyCream();
        x.loan(1000, 0, 1);
        Due.due("51 the last week", x.ends(0), 1000);
        x.loan(1001, 0, 1);
        Due.due("51 not by 1000", x.ends(1), NONE);
        x.loan(100000, 0, 100000);
        Due.due("51 the first week", x.ends(2), 1);
        x.loan(100000, 1, 100000);
        Due.due("51 the second", x.ends(3), 2);
        x.loan(10, 1, 1);
        Due.due("51 what grows is cut up", x.ends(4), NONE);
        x.loan(10, 1, 2);
        Due.due("51 by ones", x.ends(5), 10);
        Due.due("51 BAD", x.ends(6), BAD);
        Due.due("51 BAD", x.ends(-1), BAD);
    }
}
