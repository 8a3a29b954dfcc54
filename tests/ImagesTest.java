/** Promises 52 to 55: images, count, digest. */
public final class ImagesTest {
    private static final int NONE = CountyCream.NONE, BAD = CountyCream.BAD, NO = CountyCream.NO;
    private static final int LAST = CountyCream.LAST;

    public static void main(String[] args) {
        images();
        allThatIsTold();
        twoImages();
        counts();
        digests();
        Due.end();
    }

    private static void images() {
        CountyCream x = new CountyCream();
        Due.due("52 BAD", x.image(2), BAD);
        Due.due("52 BAD", x.image(-1), BAD);
        Due.due("53 BAD", x.from(2), BAD);
        Due.due("53 BAD", x.from(-1), BAD);
        Due.due("53 NO", x.from(0), NO);
        Due.due("52 kept", x.image(0), 1);
        Due.due("53 the other was not", x.from(1), NO);
        x.farm(1, 1, 1, true);
        Due.due("53 goes on", x.from(0), 1);
        Due.due("53 as it was", x.count(0), 0);
        Due.due("53 the image stays", x.from(0), 1);
        Due.due("53 no image in an image", x.from(1), NO);
    }

    /** Fills a house by 1, then the same by 2 on top; behind from() all must answer as at the image. */
    private static void fill(CountyCream x, int by) {
        x.farm(100 + by, 110, 10 * by, true);
        x.can(0, 5, 10 * by);
        x.test(0, 5, 1, 300 + by, 6);
        x.right(by - 1, 400 + by, 9);
        x.bias(1, by);
        x.period(by);
        x.churn(5, 55 + by);
        x.fill(by - 1, by - 1);
        x.out(by - 1, by);
        x.box(0);
        x.sell(by - 1, by, 6);
        x.grade(by - 1, 0, by);
        x.write(0, '0' + by);
        x.motion(0, by, false);
        x.vote(0, 0, by == 1 ? 1 : -1);
        if (by == 2) x.tear(0, true);
        x.sour(100 * by);
        x.cream(1000 * by, 50, by);
        x.gives(by, by);
        x.calved(0, 0, by);
        x.site(100, 100 * by, by);
        x.freight(by);
        x.loan(100 * by, by, by);
    }

    private static long[] answers(CountyCream x) {
        long[] told = {
            x.digest(), x.route(1), x.open(0), x.open(1), x.together(5), x.foretold(0, 1), x.foretold(0, 2), x.owed(0, 5),
            x.tells(0, 0, 0, 10), x.pay(0, 0, 10), x.force(10), x.fault(0), x.canRate(0, 10), x.rate(0, 10), x.about(0, 10, 4),
            x.heap(1, 0), x.nearest(0, 1), x.lean(), x.lot(0, 2), x.share(0, 0, 10), x.watered(0, 0, 10),
        };
        return told;
    }

    private static void allThatIsTold() {
        CountyCream x = new CountyCream();
        fill(x, 1);
        x.image(1);
        long[] at = answers(x);
        fill(x, 2);
        Due.due("55 told", x.digest() != at[0]);
        Due.due("53 from", x.from(1), 1);
        long[] behind = answers(x);
        for (int i = 0; i < at.length; i++) Due.due("53 answer " + i, behind[i], at[i]);
        Due.due("53 SOUR", x.sour(1), 100);
        Due.due("53 RATE", x.freight(1), 1);
        Due.due("53 L", x.period(1), 1);
        Due.due("53 yield", x.gives(2, 0), 0);
        x.image(0);
        for (int hand = 0; hand < 4; hand++) x.bias(hand, 40 + hand);
        for (int week = 0; week < 52; week++) x.gives(week, 400);
        x.from(0);
        for (int hand = 0; hand < 4; hand++) Due.due("53 bias", x.bias(hand, 0), hand == 1 ? 1 : 0);
        for (int week = 0; week < 52; week++) Due.due("53 yield", x.gives(week, 0), week == 1 ? 1 : 0);
        Due.due("53 vote", x.vote(0, 0, 1), 1);
        Due.due("53 not weighed out", x.churn(9, 55), 1);
        Due.due("53 not weighed out", x.about(1, 0, 4), NONE);
        // What comes behind an image must not reach into it.
        x.from(1);
        long[] again = answers(x);
        for (int i = 0; i < at.length; i++) Due.due("53 again " + i, again[i], at[i]);
    }

    private static void twoImages() {
        CountyCream x = new CountyCream();
        x.image(0);
        x.farm(1, 1, 1, true);
        x.image(1);
        x.farm(2, 2, 2, true);
        x.from(0);
        Due.due("53 first", x.count(0), 0);
        x.from(1);
        Due.due("53 second", x.count(0), 1);
        x.image(0);
        x.from(0);
        Due.due("52 kept anew", x.count(0), 1);
        // A row that came, was taken back and comes anew has nothing of the old one.
        CountyCream y = new CountyCream();
        y.farm(1, 1, 1, true);
        y.image(0);
        y.can(0, 5, 5);
        y.churn(5, 55);
        y.out(0, 5);
        y.fill(0, 0);
        y.box(0);
        y.grade(0, 1, 5);
        y.sell(0, 5, 5);
        y.test(0, 5, 0, 5, 5);
        y.right(0, 5, 5);
        y.from(0);
        y.can(0, 5, 5);
        y.churn(5, 55);
        y.test(0, 5, 0, 5, 5);
        y.box(0);
        Due.due("53 can", y.about(0, 5, 0), 0);
        Due.due("53 out", y.about(0, 5, 4), NONE);
        Due.due("53 right", y.right(0, 5, 5), 1);
        Due.due("53 grade", y.grade(0, 1, 5), NONE);
        Due.due("53 sold", y.sell(0, 5, 5), 1);
        Due.due("53 fill", y.fill(0, 0), 1);
    }

    private static void counts() {
        CountyCream x = new CountyCream();
        Due.due("54 BAD", x.count(10), BAD);
        Due.due("54 BAD", x.count(-1), BAD);
        for (int i = 0; i < 2; i++) x.farm(1, 1, 1, true);
        for (int i = 0; i < 3; i++) x.can(0, 1, 1);
        for (int i = 0; i < 4; i++) x.test(0, 1, 1, 1, 1);
        for (int i = 0; i < 5; i++) x.churn(1, 50);
        for (int i = 0; i < 6; i++) x.box(0);
        x.write(0, '1');
        for (int i = 0; i < 7; i++) x.motion(0, 1, true);
        for (int i = 0; i < 8; i++) x.cream(1, 50, 1);
        for (int i = 0; i < 9; i++) x.calved(0, 1, 1);
        for (int i = 0; i < 1; i++) x.site(1, 1, 1);
        for (int i = 0; i < 2; i++) x.loan(1, 1, 1);
        int[] due = {2, 3, 4, 5, 6, 7, 8, 9, 1, 2};
        for (int what = 0; what < 10; what++) Due.due("54 count " + what, x.count(what), due[what]);
    }

    private static long digestOf(long... numbers) {
        long h = 281;
        for (long v : numbers) h = 31 * h + v;
        return h;
    }

    private static void digests() {
        CountyCream x = new CountyCream();
        Due.due("55 nothing", x.digest(), digestOf(0, 0, 0, 0, 0, 0, 0, 0, 0, 0, 0, 0, 0, 0, 7, 0, 0, 0, 0, 0, 0));
        x.farm(1, 2, 3, true);
        x.farm(4, 5, 6, false);
        x.can(0, 7, 8);
        x.can(1, 9, 10);
        x.test(0, 1, 2, LAST, 3);
        x.test(0, 4, 3, 500, 5);
        x.right(1, 600, 6);
        x.bias(2, -9);
        x.period(11);
        x.churn(9, 50);
        x.churn(12, 51);
        x.fill(0, 1);
        x.out(1, 77);
        x.box(1);
        x.box(0);
        x.sell(1, 33, 44);
        x.grade(0, 0, 66);
        x.grade(1, 1, 88);
        x.write(0, 'w');
        x.write(0, '+');
        x.write(4, '1');
        x.motion(4, 1, true);
        x.motion(4, 2, false);
        x.vote(0, 0, 1);
        x.tear(1, true);
        x.cream(1, 50, 1);
        x.calved(0, 1, 1);
        x.site(1, 1, 1);
        x.loan(1, 1, 1);
        Due.due("55 all", x.digest(), digestOf(
            2, 2, 2, 2, 2, 2, 1, 1, 1, 1,
            1, 2, 3, 1, 4, 5, 6, 0,
            0, 7, 8, NONE, 1, 9, 10, 0,
            0, 1, 2, LAST, 3, NONE, NONE, 0, 4, 3, 500, 5, 600, 6,
            0, 0, -9, 0, 11,
            9, 50, NONE, 12, 51, 77,
            1, NONE, NONE, 66, NONE, 0, 33, 44, NONE, 88,
            2, 'w', '+', 0, 0, 0, 1, '1', 0,
            3, 0, 3, 1, 0, 0, 0, 1, 0, 1));
        x.erase(0);
        x.change(0, 3, false);
        Due.due("55 erased, no member", x.digest(), digestOf(
            2, 2, 2, 2, 2, 2, 1, 1, 1, 1,
            1, 2, 3, 0, 4, 5, 6, 0,
            0, 7, 8, NONE, 1, 9, 10, 0,
            0, 1, 2, LAST, 3, NONE, NONE, 0, 4, 3, 500, 5, 600, 6,
            0, 0, -9, 0, 11,
            9, 50, NONE, 12, 51, 77,
            1, NONE, NONE, 66, NONE, 0, 33, 44, NONE, 88,
            0, 0, 0, 0, 1, '1', 0,
            0, 0, 0, 0, 0, 0, 0, 0, 0, 1));
    }
}
