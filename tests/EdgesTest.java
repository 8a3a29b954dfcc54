import java.util.Arrays;

/**
 * Terms 1 and 2 of the document, sentence by sentence: where one names an edge (the least, the most, none, all), it
 * stands above its test. What is refused at each end has its tests in RefusedTest.
 */
public final class EdgesTest {
    private static final int NONE = CountyCream.NONE, NO = CountyCream.NO, LAST = CountyCream.LAST;

    public static void main(String[] args) {
        calls();
        weeksOfCans();
        weeksOfChurns();
        weeksOfTests();
        asKnown();
        leastAndMostRate();
        latestAhead();
        periods();
        latestPeriodAhead();
        fatOfCans();
        canToChurn();
        loss();
        butter();
        agrees();
        agreesWithMuch();
        soldOnce();
        gradesOfNothing();
        leanCut();
        lots();
        Due.end();
    }

    private static CountyCream withFarms(int farms) {
        CountyCream x = new CountyCream();
        for (int i = 0; i < farms; i++) x.farm(100, 100, 10, true);
        return x;
    }

    /** A CHURN of one CAN: its FAT is weight times rate. */
    private static CountyCream withChurn(int weight, int rate) {
        CountyCream x = withFarms(1);
        x.test(0, 0, 0, rate, 0);
        x.can(0, 0, weight);
        x.churn(0, 55);
        x.fill(0, 0);
        return x;
    }

    /** "An object is used for at most 512 calls": the last of them answers as told. */
    private static void calls() {
        CountyCream x = new CountyCream();
        x.farm(1, 2, 3, true);
        for (int call = 2; call < 512; call++) Due.due("1 call " + call, x.change(0, call % 61, true), 1);
        Due.due("1 call 512", x.digest(), digestOfOne(511 % 61));
        CountyCream y = new CountyCream();
        for (int call = 1; call <= 10; call++) y.farm(1, 1, 1, true);
        for (int call = 11; call <= 310; call++) Due.due("4 call " + call, y.can(call % 10, 5, 5), call - 11);
        for (int call = 311; call <= 510; call++) Due.due("5 call " + call, y.test(call % 10, 5, 0, 5, 5), call - 311);
        Due.due("1 call 511", y.fat(9, 0, 195), 30 * 5 * 5);
        Due.due("1 call 512", y.count(1), 300);
    }

    private static long digestOfOne(int cows) {
        long h = 281;
        long[] told = {1, 0, 0, 0, 0, 0, 0, 0, 0, 0, 1, 2, cows, 1, 0, 0, 0, 0, 7, 0, 0, 0, 0, 0, 0};
        for (long v : told) h = 31 * h + v;
        return h;
    }

    /** "WEEK w: DAYS 7 w to 7 w + 6". Of CANS by their own DAYS. */
    private static void weeksOfCans() {
        for (int week : new int[] {0, 1, 13, 26, 27}) {
            CountyCream x = withFarms(1);
            x.can(0, 7 * week, 10);
            x.can(0, 7 * week + 6, 100);
            if (week > 0) x.can(0, 7 * week - 1, 1);
            if (week < 27) x.can(0, 7 * week + 7, 1000);
            Due.due("11 week " + week, x.fat(0, week, 195), 110 * 350);
            if (week > 0) Due.due("11 the week ahead of " + week, x.fat(0, week - 1, 195), 350);
            if (week < 27) Due.due("11 the week behind " + week, x.fat(0, week + 1, 195), 1000 * 350);
        }
    }

    /** "CHURNS of DAYS of the WEEK" and "CHURNS of its DAYS". */
    private static void weeksOfChurns() {
        for (int week : new int[] {0, 1, 13, 26, 27}) {
            CountyCream x = withFarms(1);
            x.write(0, 'w');
            int[] days = {7 * week - 1, 7 * week, 7 * week + 6, 7 * week + 7};
            for (int i = 0, weight = 1; i < 4; i++, weight *= 10) {
                if (days[i] < 0 || days[i] > 195) continue;
                int churn = x.churn(days[i], 55);
                x.fill(churn, x.can(0, Math.max(0, days[i] - 3), weight));
                x.sell(x.box(churn), 7 * weight, 195);
            }
            Due.due("25 w of week " + week, x.tells(0, 0, week, 195), 110);
            Due.due("31 money of week " + week, x.money(week, 195), 770);
            Due.due("33 share of week " + week, x.share(week, 0, 195), 110 * 350 / 100);
            Due.due("32 pay of week " + week, x.pay(week, 0, 195), 770);
            if (week > 0) Due.due("31 money ahead of week " + week, x.money(week - 1, 195), 7);
            if (week < 27) Due.due("31 money behind week " + week, x.money(week + 1, 195), 7000);
            Due.due("31 not known", x.money(week, 194), 0);
        }
    }

    /** "how many TESTS it has in the WEEK that are KNOWN"; "of its TESTS there"; "of its TESTS of earlier WEEKS". */
    private static void weeksOfTests() {
        for (int week : new int[] {1, 13, 26, 27}) {
            CountyCream x = withFarms(2);
            x.write(0, 't');
            for (int i = 0; i < 3; i++) x.test(0, 7 * week - 1, 0, 500, 7 * week - 1);
            x.test(0, 7 * week, 0, 460, 7 * week);
            x.test(0, 7 * week + 6, 0, 460, 7 * week + 6);
            if (week < 27) for (int i = 0; i < 3; i++) x.test(0, 7 * week + 7, 0, 999, 7 * week + 7);
            Due.due("25 t of week " + week, x.tells(0, 0, week, 195), 2);
            Due.due("25 t ahead of week " + week, x.tells(0, 0, week - 1, 195), 3);
            Due.due("25 t of another farm", x.tells(0, 1, week, 195), 0);
            Due.due("34 watered in week " + week, x.watered(0, week, 195), 2);
            Due.due("25 t, the last not known", x.tells(0, 0, week, 7 * week + 5), 1);
            Due.due("34 the last not known", x.watered(0, week, 7 * week + 5), 0);
            Due.due("34 not in the week ahead", x.watered(0, week - 1, 195), 0);
        }
        // One that is not known yet, and one of another FARM, ahead of all others.
        CountyCream y = withFarms(2);
        y.write(0, 't');
        y.test(0, 1, 0, 999, 195);
        y.test(1, 1, 0, 999, 1);
        y.test(0, 8, 0, 1, 195);
        for (int day : new int[] {0, 1, 2, 7, 8}) y.test(0, day, 0, day < 7 ? 440 : 400, day);
        Due.due("25 the first is not known", y.tells(0, 0, 0, 100), 3);
        Due.due("25 the first is known", y.tells(0, 0, 0, 195), 4);
        Due.due("34 the first is not known", y.watered(0, 1, 100), 2);
        Due.due("34 the first is known", y.watered(0, 1, 195), 3);
    }

    /** "TESTS that are KNOWN from K or earlier, with the number that was KNOWN then last." */
    private static void asKnown() {
        CountyCream x = withFarms(1);
        x.test(0, 0, 0, 100, 0);
        x.test(0, 195, 0, 200, 195);
        x.test(0, 5, 0, 300, 8);
        x.right(0, 110, 0);
        x.right(1, 210, 195);
        x.right(2, 310, 9);
        Due.due("9 on day 0, put right at once", x.rate(0, 0), 110);
        Due.due("9 the day before the last", x.rate(1, 194), NONE);
        Due.due("9 the last day", x.rate(1, 195), 210);
        Due.due("9 before it is known", x.rate(2, 7), NONE);
        Due.due("9 as it is known", x.rate(2, 8), 300);
        Due.due("9 as it is put right", x.rate(2, 9), 310);
        Due.due("9 behind", x.rate(2, 195), 310);
        // Of what is not KNOWN nothing is made: a CAN of that DAY goes by the one that is.
        x.can(0, 5, 1);
        Due.due("10 before it is known", x.canRate(0, 7), 110);
        Due.due("10 as it is known", x.canRate(0, 8), (110 + 300) / 2);
        Due.due("10 as it is put right", x.canRate(0, 9), (110 + 310) / 2);
    }

    /** "its number less its HAND's BIAS, 0 at least, 1000 at most". */
    private static void leastAndMostRate() {
        CountyCream x = withFarms(1);
        x.bias(0, 50);
        x.bias(1, -50);
        int[][] numbers = {
            {0, 0, 0}, {0, 49, 0}, {0, 50, 0}, {0, 51, 1}, {0, 1000, 950}, {1, 0, 50}, {1, 949, 999}, {1, 950, 1000}, {1, 951, 1000},
            {1, 1000, 1000}, {2, 0, 0}, {2, 1000, 1000},
        };
        for (int[] n : numbers) {
            int test = x.test(0, 5, n[0], n[1], 5);
            Due.due("9 hand " + n[0] + ", number " + n[1], x.rate(test, 5), n[2]);
            Due.due("9 LAST of it", x.rate(x.test(0, 5, 1 - n[0] / 2, LAST, 5), 5), n[2]);
        }
    }

    /** "the latest of those ahead of it (by DAYS, of like ones by numbers); 350, if there is none." */
    private static void latestAhead() {
        CountyCream x = withFarms(1);
        Due.due("9 the first of all", x.test(0, 0, 0, LAST, 0), 0);
        x.test(0, 0, 0, 500, 0);
        x.test(0, 0, 0, LAST, 0);
        x.test(0, 1, 0, 600, 1);
        x.test(0, 1, 0, LAST, 1);
        x.test(0, 195, 0, LAST, 195);
        x.test(0, 195, 0, 700, 195);
        Due.due("9 none ahead of test 0 on day 0", x.rate(0, 195), 350);
        Due.due("9 the same day, one number ahead", x.rate(2, 195), 500);
        Due.due("9 the same day rather than the day ahead", x.rate(4, 195), 600);
        Due.due("9 the last day, the next number is not ahead", x.rate(5, 195), 600);
        x.right(3, 610, 195);
        Due.due("9 of one put right, before", x.rate(4, 194), 600);
        Due.due("9 of one put right", x.rate(4, 195), 610);
        // LAST behind LAST has the number of neither: that ahead of both.
        x.test(0, 1, 0, LAST, 1);
        Due.due("9 LAST behind LAST", x.rate(7, 195), 610);
        x.right(4, 400, 5);
        Due.due("9 behind what was LAST, before", x.rate(7, 4), 600);
        Due.due("9 behind what was LAST, put right", x.rate(7, 5), 400);
    }

    /** "PERIODS are of L DAYS (1 .. 28; 7 at first) from DAY 0 on." */
    private static void periods() {
        CountyCream x = withFarms(1);
        int[] days = {0, 6, 7, 13, 14, 27, 28, 195};
        for (int i = 0; i < days.length; i++) x.test(0, days[i], 0, 100 << i % 3, days[i]);
        for (int day : days) x.can(0, day, 1);
        // 100 on 0, 200 on 6, 400 on 7, 100 on 13, 200 on 14, 400 on 27, 100 on 28, 200 on 195
        int[][] due = {
            {7, 150, 150, 250, 250, 200, 400, 100, 200}, {1, 100, 200, 400, 100, 200, 400, 100, 200},
            {28, 233, 233, 233, 233, 233, 233, 100, 200}, {14, 200, 200, 200, 200, 300, 300, 100, 200},
            {27, 200, 200, 200, 200, 200, 250, 250, 200},
        };
        for (int[] row : due) {
            x.period(row[0]);
            for (int can = 0; can < days.length; can++) {
                Due.due("10 L " + row[0] + ", day " + days[can], x.canRate(can, 195), row[can + 1]);
            }
        }
    }

    /** "if there are none that of the latest PERIOD ahead that has any; else 350." */
    private static void latestPeriodAhead() {
        CountyCream x = withFarms(2);
        x.can(0, 0, 1);
        x.can(0, 195, 1);
        x.test(0, 7, 0, 400, 7);
        x.test(0, 6, 0, 200, 100);
        x.test(1, 0, 0, 999, 0);
        Due.due("10 none ahead, one behind", x.canRate(0, 99), 350);
        Due.due("10 its own, known later", x.canRate(0, 100), 200);
        Due.due("10 many PERIODS ahead", x.canRate(1, 195), 400);
        Due.due("10 nothing known", x.canRate(1, 6), 350);
        x.test(0, 13, 0, LAST, 13);
        Due.due("10 LAST is one of them", x.canRate(1, 195), 400);
        x.right(0, 401, 150);
        x.test(0, 12, 0, 302, 160);
        Due.due("10 LAST goes with what is ahead, before", x.canRate(1, 149), 400);
        Due.due("10 LAST goes with what is ahead", x.canRate(1, 150), 401);
        Due.due("10 LAST goes with the later", x.canRate(1, 160), (401 + 302 + 302) / 3);
        // Of LAST alone, with none ahead of it, the RATE is 350 and counts as one.
        CountyCream y = withFarms(1);
        y.can(0, 5, 1);
        y.test(0, 4, 0, LAST, 4);
        y.test(0, 5, 0, 401, 5);
        Due.due("10 LAST of none is 350, together, cut", y.canRate(0, 5), 375);
        Due.due("10 LAST of none alone", y.canRate(0, 4), 350);
        y.bias(0, 50);
        Due.due("10 350 is without BIAS", y.canRate(0, 5), (350 + 351) / 2);
        // A RATE of 0 is one too.
        CountyCream z = withFarms(1);
        z.can(0, 8, 5);
        z.test(0, 1, 0, 700, 1);
        z.test(0, 8, 0, 0, 8);
        Due.due("10 RATE 0", z.canRate(0, 8), 0);
        Due.due("11 FAT 0", z.fat(0, 1, 8), 0);
        Due.due("10 before RATE 0 is known", z.canRate(0, 7), 700);
    }

    /** "ITS FAT: WEIGHT times its RATE." The least, and as much as 300 CANS have. */
    private static void fatOfCans() {
        CountyCream x = withFarms(1);
        x.test(0, 0, 0, 1, 0);
        x.can(0, 0, 1);
        Due.due("11 least", x.fat(0, 0, 0), 1);
        CountyCream y = withFarms(1);
        y.test(0, 0, 0, 1000, 0);
        for (int can = 0; can < 300; can++) y.can(0, can % 7, 1000);
        Due.due("11 most", y.fat(0, 0, 195), 300000000L);
        Due.due("11 none", y.fat(0, 1, 195), 0);
    }

    /** "a CAN comes to one, if it is in none, its DAY is no later and not more than 9 ahead." */
    private static void canToChurn() {
        for (int day : new int[] {0, 9, 100, 195}) {
            CountyCream x = withFarms(1);
            x.churn(day, 55);
            for (int ahead = -1; ahead <= 10; ahead++) {
                if (day - ahead < 0 || day - ahead > 195) continue;
                int can = x.can(0, day - ahead, 1);
                Due.due("13 day " + day + ", ahead " + ahead, x.fill(0, can), ahead >= 0 && ahead <= 9 ? 1 : NO);
            }
        }
        CountyCream y = withFarms(1);
        y.churn(5, 55);
        y.can(0, 195, 1);
        Due.due("13 much later", y.fill(0, 0), NO);
        y.churn(195, 55);
        y.can(0, 5, 1);
        Due.due("13 much too early", y.fill(1, 1), NO);
        Due.due("13 a refused CAN is in none", y.fill(1, 0), 1);
        Due.due("13 one of none is in one now", y.fill(1, 0), NO);
    }

    /** "5 and 2 for each degree from 55 and 10 times the DAYS of its oldest CAN (0 without any)". */
    private static void loss() {
        int[][] due = {{40, 35}, {54, 7}, {55, 5}, {56, 7}, {80, 55}};
        for (int[] row : due) {
            CountyCream x = withFarms(1);
            x.churn(9, row[0]);
            Due.due("14 heat " + row[0] + ", no CAN", x.about(0, 195, 1), row[1]);
            x.can(0, 9, 1);
            x.fill(0, 0);
            Due.due("14 heat " + row[0] + ", of its DAY", x.about(0, 195, 1), row[1]);
            x.can(0, 8, 1);
            x.fill(0, 1);
            Due.due("14 heat " + row[0] + ", a DAY", x.about(0, 195, 1), row[1] + 10);
            x.can(0, 0, 1);
            x.fill(0, 2);
            Due.due("14 heat " + row[0] + ", 9 DAYS", x.about(0, 195, 1), row[1] + 90);
        }
    }

    /** "that times (1000 less LOSS) by 1000, cut": from nothing to more than an int holds on the way. */
    private static void butter() {
        // FAT 1 and LOSS 5: 0.995
        Due.due("14 of 1", withChurn(1, 1).about(0, 195, 3), 0);
        Due.due("14 of 0", withChurn(1, 0).about(0, 195, 3), 0);
        // 201 times 995 are 199995
        Due.due("14 cut", withChurn(1, 201).about(0, 195, 3), 199);
        Due.due("14 just", withChurn(1, 200).about(0, 195, 3), 199);
        CountyCream x = withFarms(1);
        x.test(0, 0, 0, 1000, 0);
        x.churn(0, 55);
        for (int can = 0; can < 240; can++) x.fill(0, x.can(0, 0, 1000));
        Due.due("14 FAT of 240 CANS", x.about(0, 195, 2), 240000000L);
        Due.due("14 BUTTER of 240 CANS", x.about(0, 195, 3), 238800000L);
        Due.due("21 of 240 CANS", x.lead(0, 0, 195), 240000000L);
    }

    private static void agree(int weight, int rate, long butter, int off) {
        for (int sign = -1; sign <= 1; sign += 2) {
            for (int more = 0; more <= 1; more++) {
                CountyCream x = withChurn(weight, rate);
                Due.due("14 butter", x.about(0, 195, 3), butter);
                Due.due("14 not weighed out", x.about(0, 195, 4), NONE);
                int v = (int) butter + sign * (off + more);
                Due.due("15 " + v, x.out(0, v), 1);
                Due.due("14 " + v + " of " + butter, x.about(0, 195, 4), 1 - more);
            }
        }
    }

    /** "no more than 20 thousandths of BUTTER (20 times BUTTER by 1000, cut)". */
    private static void agrees() {
        // 2 times 503 times 995: BUTTER 1000, 20 of it
        agree(2, 503, 1000, 20);
        // FAT 1005: 999.975, BUTTER 999, 19.98
        agree(1, 1000, 995, 19);
        agree(3, 335, 999, 19);
        // FAT 50: BUTTER 49, 0.98; FAT 51: BUTTER 50, just 1
        agree(1, 50, 49, 0);
        agree(1, 51, 50, 1);
    }

    /** WEIGHED OUT to 300000000, AS KNOWN: what agreed does so no more when a TEST comes. */
    private static void agreesWithMuch() {
        for (int more = 0; more <= 1; more++) {
            CountyCream x = withFarms(1);
            x.test(0, 0, 0, 1000, 0);
            x.test(0, 0, 0, 900, 50);
            x.churn(0, 55);
            for (int can = 0; can < 110; can++) x.fill(0, x.can(0, 0, 1000));
            // 110000000 times 995 by 1000, and 2189000 of it
            Due.due("14 BUTTER of 110 CANS", x.about(0, 49, 3), 109450000L);
            x.out(0, 109450000 + 2189000 + more);
            Due.due("14 agrees, much", x.about(0, 49, 4), 1 - more);
            Due.due("14 agrees no more", x.about(0, 50, 4), 0);
        }
        CountyCream y = withChurn(1000, 1000);
        y.out(0, 300000000);
        Due.due("14 the most is too much", y.about(0, 195, 4), 0);
        CountyCream z = withFarms(1);
        z.churn(0, 80);
        Due.due("15 0 of no CANS", z.out(0, 0), 1);
        Due.due("14 0 of no CANS agrees", z.about(0, 0, 4), 1);
        Due.due("15 once, though 0", z.out(0, 5), NO);
    }

    /** "a BOX may be SOLD (once) for pence (0 .. 1000000), KNOWN from a DAY (no earlier than its CHURN's)". */
    private static void soldOnce() {
        CountyCream x = new CountyCream();
        x.churn(0, 55);
        x.churn(195, 55);
        for (int i = 0; i < 4; i++) x.box(i / 2);
        Due.due("17 for 0 on day 0", x.sell(0, 0, 0), 1);
        Due.due("17 for 0 is SOLD", x.sell(0, 5, 0), NO);
        Due.due("17 on the last day", x.sell(2, 1000000, 195), 1);
        Due.due("14 pence of 0", x.about(0, 195, 6), 0);
        Due.due("14 boxes", x.about(0, 195, 5), 2);
        Due.due("14 pence, not known", x.about(1, 194, 6), 0);
        Due.due("14 pence, known", x.about(1, 195, 6), 1000000);
        Due.due("31 another week", x.money(0, 195), 0);
        Due.due("31 the last week", x.money(27, 195), 1000000);
        CountyCream y = new CountyCream();
        y.churn(7, 55);
        for (int i = 0; i < 100; i++) y.sell(y.box(0), 1000000, 7);
        Due.due("31 the most", y.money(1, 7), 100000000L);
        Due.due("14 the most", y.about(0, 7, 6), 100000000L);
        Due.due("14 all BOXES", y.about(0, 0, 5), 100);
    }

    /** "GRADES of a BOX (0 .. 100) by graders 0, 1: the last one counts." A grade of 0 is one. */
    private static void gradesOfNothing() {
        CountyCream x = new CountyCream();
        x.churn(0, 55);
        for (int i = 0; i < 3; i++) x.box(0);
        Due.due("20 none has one", x.lot(0, 3), 0);
        Due.due("18 first", x.grade(0, 0, 0), NONE);
        Due.due("18 0 was one", x.grade(0, 0, 0), 0);
        Due.due("20 0 counts", x.lot(0, 3), 1);
        Due.due("20 least 0", x.lot(0, 0), 0);
        Due.due("19 one grader only", x.lean(), 0);
        x.grade(1, 1, 0);
        Due.due("20 the other's 0 counts", x.lot(0, 3), 2);
        x.grade(2, 0, 9);
        x.grade(2, 1, 0);
        Due.due("19 the other's 0 counts", x.lean(), 9);
        x.grade(0, 1, 0);
        Due.due("19 0 and 0 count", x.lean(), 4);
        x.grade(2, 0, 3);
        Due.due("19 the last one counts", x.lean(), 1);
        x.grade(2, 0, 0);
        Due.due("19 all 0", x.lean(), 0);
    }

    private static int leanOf(int... grades) {
        CountyCream x = new CountyCream();
        x.churn(0, 55);
        for (int i = 0; i < grades.length; i += 2) {
            int box = x.box(0);
            x.grade(box, 0, grades[i]);
            x.grade(box, 1, grades[i + 1]);
        }
        return x.lean();
    }

    /** "the sum of (grade of 0 less that of 1) by how many, cut; 0 without any". Of all BOXES, of all CHURNS. */
    private static void leanCut() {
        Due.due("19 most", leanOf(100, 0), 100);
        Due.due("19 least", leanOf(0, 100), -100);
        Due.due("19 one half", leanOf(1, 0, 0, 0), 0);
        Due.due("19 less one half", leanOf(0, 1, 0, 0), 0);
        Due.due("19 one and a half", leanOf(2, 0, 1, 0), 1);
        Due.due("19 less one and a half", leanOf(0, 2, 0, 1), -1);
        Due.due("19 less two thirds", leanOf(5, 7, 5, 5, 5, 5), 0);
        Due.due("19 one up, one down", leanOf(0, 100, 100, 0), 0);
        CountyCream x = new CountyCream();
        x.churn(0, 55);
        x.churn(195, 55);
        for (int i = 0; i < 100; i++) {
            int box = x.box(i % 2);
            x.grade(box, 0, 100);
            x.grade(box, 1, i == 0 ? 99 : 0);
        }
        Due.due("19 of 100 BOXES of two CHURNS", x.lean(), (99 * 100 + 1) / 100);
    }

    private static void lot(String what, int[] due, int... byOne) {
        CountyCream x = new CountyCream();
        x.churn(0, 55);
        x.churn(1, 55);
        // The LEAN is told by a BOX of another CHURN.
        x.box(1);
        x.grade(0, 0, byOne[0]);
        x.grade(0, 1, byOne[1]);
        for (int i = 2; i < byOne.length; i++) {
            int box = x.box(0);
            if (byOne[i] != NONE) x.grade(box, 1, byOne[i]);
        }
        int[] told = new int[4];
        for (int i = 0; i < 4; i++) told[i] = x.lot(0, i);
        Due.due("20 " + what + " " + Arrays.toString(told), Arrays.equals(told, due));
    }

    /** "of each BOX its grade by 0, else by 1 and THE LEAN, if it has one: least, greatest, and mean (cut)". */
    private static void lots() {
        lot("most", new int[] {200, 200, 200, 1}, 100, 0, 100);
        lot("least", new int[] {-100, -100, -100, 1}, 0, 100, 0);
        lot("all below 0", new int[] {-9, -2, -5, 3}, 0, 10, 1, 8, 5);
        lot("mean of below 0, cut", new int[] {-2, -1, -1, 2}, 0, 10, 9, 8);
        lot("mean of just below 0, cut", new int[] {-1, 0, 0, 2}, 0, 10, 10, 9);
        lot("those without a grade", new int[] {3, 8, 5, 2}, 5, 5, NONE, 3, NONE, 8, NONE);
        lot("none has one", new int[] {-2000, -2000, -2000, 0}, 5, 5, NONE, NONE);
        lot("no BOX", new int[] {-2000, -2000, -2000, 0}, 5, 5);
        // Its grade by 0 is taken, whatever the other says.
        CountyCream x = new CountyCream();
        x.churn(0, 55);
        x.box(0);
        x.grade(0, 1, 100);
        Due.due("20 by 1, no LEAN", x.lot(0, 2), 100);
        x.grade(0, 0, 0);
        Due.due("20 by 0", x.lot(0, 2), 0);
    }
}
