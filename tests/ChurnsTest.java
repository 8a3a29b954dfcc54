/** Promises 12 to 21: churns, boxes. */
public final class ChurnsTest {
    private static final int NONE = CountyCream.NONE, BAD = CountyCream.BAD, NO = CountyCream.NO;
    private static final int FULL = CountyCream.FULL;

    public static void main(String[] args) {
        churns();
        fillings();
        abouts();
        agreeing();
        boxes();
        grades();
        lots();
        leads();
        Due.end();
    }

    private static CountyCream withFarms(int farms) {
        CountyCream x = new CountyCream();
        for (int i = 0; i < farms; i++) x.farm(100, 100, 10, true);
        return x;
    }

    private static void churns() {
        CountyCream x = new CountyCream();
        Due.due("12 first", x.churn(0, 40), 0);
        Due.due("12 most", x.churn(195, 80), 1);
        Due.due("12 BAD day", x.churn(-1, 50), BAD);
        Due.due("12 BAD day", x.churn(196, 50), BAD);
        Due.due("12 BAD heat", x.churn(0, 39), BAD);
        Due.due("12 BAD heat", x.churn(0, 81), BAD);
        for (int i = 2; i < 40; i++) Due.due("12 next", x.churn(i, 55), i);
        Due.due("12 FULL", x.churn(5, 55), FULL);
        Due.due("12 BAD before FULL", x.churn(5, 39), BAD);
        Due.due("12 count", x.count(3), 40);
    }

    private static void fillings() {
        CountyCream x = withFarms(1);
        x.churn(20, 55);
        x.churn(20, 55);
        x.can(0, 20, 1);
        x.can(0, 21, 1);
        x.can(0, 11, 1);
        x.can(0, 10, 1);
        Due.due("13 BAD churn", x.fill(2, 0), BAD);
        Due.due("13 BAD churn", x.fill(-1, 0), BAD);
        Due.due("13 BAD can", x.fill(0, 4), BAD);
        Due.due("13 BAD can", x.fill(0, -1), BAD);
        Due.due("13 the same day", x.fill(0, 0), 1);
        Due.due("13 a later day", x.fill(0, 1), NO);
        Due.due("13 9 ahead", x.fill(0, 2), 1);
        Due.due("13 10 ahead", x.fill(0, 3), NO);
        Due.due("13 in one", x.fill(0, 0), NO);
        Due.due("13 in another", x.fill(1, 0), NO);
        Due.due("13 cans", x.about(0, 0, 0), 2);
        Due.due("13 cans", x.about(1, 0, 0), 0);
    }

    private static void abouts() {
        CountyCream x = withFarms(2);
        x.churn(20, 58);
        x.churn(20, 40);
        Due.due("14 loss without cans", x.about(0, 0, 1), 5 + 6);
        Due.due("14 loss of cold", x.about(1, 0, 1), 5 + 30);
        Due.due("14 fat", x.about(0, 0, 2), 0);
        Due.due("14 butter", x.about(0, 0, 3), 0);
        Due.due("14 agrees", x.about(0, 0, 4), NONE);
        Due.due("14 boxes", x.about(0, 0, 5), 0);
        Due.due("14 pence", x.about(0, 0, 6), 0);
        x.can(0, 18, 100);
        x.can(1, 13, 3);
        x.can(1, 19, 50);
        for (int can = 0; can < 3; can++) x.fill(0, can);
        x.test(0, 15, 0, 401, 30);
        Due.due("14 cans", x.about(0, 0, 0), 3);
        Due.due("14 the oldest can", x.about(0, 0, 1), 5 + 6 + 70);
        Due.due("14 fat", x.about(0, 29, 2), 153 * 350);
        Due.due("14 fat as known", x.about(0, 30, 2), 40100 + 53 * 350);
        Due.due("14 butter, cut", x.about(0, 30, 3), (40100 + 53 * 350) * 919 / 1000);
        x.box(0);
        x.box(0);
        x.box(1);
        x.sell(0, 30, 21);
        x.sell(2, 500, 20);
        Due.due("14 boxes", x.about(0, 0, 5), 2);
        Due.due("14 pence not known", x.about(0, 20, 6), 0);
        Due.due("14 pence", x.about(0, 21, 6), 30);
        x.sell(1, 4, 22);
        Due.due("14 pence", x.about(0, 22, 6), 34);
        x.can(0, 11, 1);
        x.churn(20, 55);
        x.fill(2, 3);
        Due.due("14 9 days", x.about(2, 0, 1), 5 + 90);
        CountyCream y = withFarms(1);
        y.churn(20, 55);
        y.can(0, 19, 1);
        y.fill(0, 0);
        Due.due("14 the first can", y.about(0, 0, 1), 15);
        Due.due("14 BAD churn", x.about(3, 0, 0), BAD);
        Due.due("14 BAD churn", x.about(-1, 0, 0), BAD);
        Due.due("14 BAD K", x.about(0, 196, 0), BAD);
        Due.due("14 BAD K", x.about(0, -1, 0), BAD);
        Due.due("14 BAD what", x.about(0, 0, 7), BAD);
        Due.due("14 BAD what", x.about(0, 0, -1), BAD);
    }

    /** BUTTER 199 of FAT 210 (loss 52): 20 thousandths are 3.98, cut 3. */
    private static void agreeing() {
        int[] outs = {195, 196, 199, 202, 203};
        int[] agree = {0, 1, 1, 1, 0};
        for (int i = 0; i < outs.length; i++) {
            CountyCream x = withFarms(1);
            x.test(0, 0, 0, 210, 0);
            x.test(0, 0, 0, 210, 100);
            x.can(0, 0, 1);
            x.churn(0, 55);
            x.fill(0, 0);
            Due.due("15 out", x.out(0, 208), 1);
            Due.due("15 butter", x.about(0, 0, 3), 208);
            Due.due("15 NO", x.out(0, 208), NO);
            Due.due("15 agrees", x.about(0, 0, 4), 1);
            x.churn(0, 55);
            x.can(0, 0, 1);
            x.fill(1, 1);
            x.bias(0, 10);
            Due.due("15 butter", x.about(1, 0, 3), 199);
            x.out(1, outs[i]);
            Due.due("14 agrees with " + outs[i], x.about(1, 0, 4), agree[i]);
        }
        CountyCream x = withFarms(1);
        x.churn(0, 55);
        x.churn(0, 55);
        Due.due("15 BAD churn", x.out(2, 0), BAD);
        Due.due("15 BAD churn", x.out(-1, 0), BAD);
        Due.due("15 BAD v", x.out(0, -1), BAD);
        Due.due("15 BAD v", x.out(0, 300000001), BAD);
        Due.due("15 most", x.out(0, 300000000), 1);
        Due.due("15 BAD before NO", x.out(0, -1), BAD);
        Due.due("14 does not agree", x.about(0, 0, 4), 0);
        Due.due("15 least", x.out(1, 0), 1);
        Due.due("14 0 of 0 agrees", x.about(1, 0, 4), 1);
    }

    private static void boxes() {
        CountyCream x = new CountyCream();
        Due.due("16 BAD", x.box(0), BAD);
        x.churn(10, 55);
        Due.due("16 BAD", x.box(1), BAD);
        Due.due("16 BAD", x.box(-1), BAD);
        for (int i = 0; i < 100; i++) Due.due("16 next", x.box(0), i);
        Due.due("16 FULL", x.box(0), FULL);
        Due.due("16 BAD before FULL", x.box(1), BAD);
        Due.due("17 BAD box", x.sell(100, 1, 10), BAD);
        Due.due("17 BAD box", x.sell(-1, 1, 10), BAD);
        Due.due("17 BAD pence", x.sell(0, -1, 10), BAD);
        Due.due("17 BAD pence", x.sell(0, 1000001, 10), BAD);
        Due.due("17 BAD known", x.sell(0, 1, 9), BAD);
        Due.due("17 BAD known", x.sell(0, 1, 196), BAD);
        Due.due("17 its churn's day", x.sell(0, 0, 10), 1);
        Due.due("17 most", x.sell(99, 1000000, 195), 1);
        Due.due("17 NO", x.sell(0, 1, 20), NO);
        Due.due("17 BAD before NO", x.sell(0, 1, 9), BAD);
        Due.due("17 money", x.money(1, 194), 0);
        Due.due("17 money", x.money(1, 195), 1000000);
    }

    private static void grades() {
        CountyCream x = new CountyCream();
        x.churn(10, 55);
        x.churn(10, 55);
        for (int i = 0; i < 4; i++) x.box(i / 2);
        Due.due("19 without any", x.lean(), 0);
        Due.due("18 first", x.grade(0, 0, 0), NONE);
        Due.due("18 again", x.grade(0, 0, 100), 0);
        Due.due("18 again", x.grade(0, 0, 50), 100);
        Due.due("18 BAD box", x.grade(4, 0, 1), BAD);
        Due.due("18 BAD box", x.grade(-1, 0, 1), BAD);
        Due.due("18 BAD grader", x.grade(0, 2, 1), BAD);
        Due.due("18 BAD grader", x.grade(0, -1, 1), BAD);
        Due.due("18 BAD v", x.grade(0, 0, 101), BAD);
        Due.due("18 BAD v", x.grade(0, 0, -1), BAD);
        x.grade(1, 1, 90);
        Due.due("19 no box has both", x.lean(), 0);
        Due.due("18 the other's", x.grade(0, 1, 55), NONE);
        Due.due("19 lean", x.lean(), -5);
        x.grade(2, 0, 70);
        x.grade(2, 1, 70);
        Due.due("19 cut toward 0", x.lean(), -2);
        x.grade(2, 0, 78);
        Due.due("19 the last grade counts", x.lean(), 1);
        x.sell(0, 3, 11);
        Due.due("18 the other's, again", x.grade(0, 1, 54), 55);
        Due.due("18 the first's stays", x.grade(0, 0, 50), 50);
    }

    private static void lots() {
        CountyCream x = new CountyCream();
        x.churn(10, 55);
        x.churn(10, 55);
        x.churn(10, 55);
        for (int churn : new int[] {0, 0, 0, 0, 1, 1}) x.box(churn);
        for (int what = 0; what <= 2; what++) Due.due("20 NO", x.lot(0, what), -2000);
        Due.due("20 none has a grade", x.lot(0, 3), 0);
        Due.due("20 no boxes", x.lot(2, 0), -2000);
        x.grade(4, 0, 10);
        x.grade(4, 1, 20);
        x.grade(5, 1, 3);
        Due.due("20 below 0", x.lot(1, 0), -7);
        Due.due("20 mean", x.lot(1, 2), 1);
        x.grade(5, 1, 0);
        x.grade(4, 0, 9);
        Due.due("20 mean, cut toward 0", x.lot(1, 2), -1);
        x.grade(0, 1, 60);
        Due.due("20 by 1 and the lean", x.lot(0, 0), 49);
        Due.due("20 by 1 and the lean", x.lot(0, 1), 49);
        x.grade(1, 0, 80);
        x.grade(1, 1, 91);
        x.grade(2, 0, 41);
        Due.due("20 least", x.lot(0, 0), 41);
        Due.due("20 greatest", x.lot(0, 1), 80);
        Due.due("20 mean", x.lot(0, 2), (49 + 80 + 41) / 3);
        Due.due("20 how many", x.lot(0, 3), 3);
        x.grade(0, 0, 95);
        Due.due("20 the first is the greatest", x.lot(0, 1), 95);
        x.grade(0, 0, 1);
        Due.due("20 the first is the least", x.lot(0, 0), 1);
        Due.due("20 BAD churn", x.lot(3, 0), -1000);
        Due.due("20 BAD churn", x.lot(-1, 0), -1000);
        Due.due("20 BAD what", x.lot(0, 4), -1000);
        Due.due("20 BAD what", x.lot(0, -1), -1000);
    }

    private static void leads() {
        CountyCream x = withFarms(2);
        x.churn(10, 55);
        x.churn(10, 55);
        x.can(0, 10, 10);
        x.can(1, 10, 20);
        x.can(0, 10, 40);
        x.can(0, 10, 80);
        for (int can = 0; can < 3; can++) x.fill(0, can);
        x.test(0, 10, 0, 400, 20);
        Due.due("21 lead", x.lead(0, 0, 19), 50 * 350);
        Due.due("21 as known", x.lead(0, 0, 20), 50 * 400);
        Due.due("21 another farm", x.lead(0, 1, 20), 20 * 350);
        Due.due("21 none", x.lead(1, 0, 20), 0);
        Due.due("21 BAD churn", x.lead(2, 0, 0), BAD);
        Due.due("21 BAD churn", x.lead(-1, 0, 0), BAD);
        Due.due("21 BAD farm", x.lead(0, 2, 0), BAD);
        Due.due("21 BAD farm", x.lead(0, -1, 0), BAD);
        Due.due("21 BAD K", x.lead(0, 0, 196), BAD);
        Due.due("21 BAD K", x.lead(0, 0, -1), BAD);
    }
}
