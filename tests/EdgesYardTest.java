/** Terms 4 and 5 of the document, sentence by sentence: watered milk, carts, creams, winter, sites, loans, images. */
public final class EdgesYardTest {
    private static final int NONE = CountyCream.NONE, BAD = CountyCream.BAD, NO = CountyCream.NO, FULL = CountyCream.FULL;
    private static final int LAST = CountyCream.LAST;

    public static void main(String[] args) {
        belowTheMean();
        threeEarlierTests();
        twoSigns();
        halfOfThem();
        wateredAsKnown();
        milesAndBack();
        sourMinutes();
        stopsTakeTime();
        fewestMiles();
        eightFarms();
        stopsOfARoute();
        lossOfAHeap();
        atMostK();
        heapAlone();
        fewestHeaps();
        tenCreams();
        yieldOfWeeks();
        rowsCalved();
        costOfSites();
        likeSites();
        nearestOfThree();
        weeksOwed();
        mostOwed();
        endOfLoans();
        emptyImage();
        imageOfAllFull();
        imagesApart();
        counts();
        Due.end();
    }

    private static CountyCream withFarms(int... places) {
        CountyCream x = new CountyCream();
        for (int i = 0; i < places.length; i += 2) x.farm(places[i], places[i + 1], 1, true);
        return x;
    }

    /** Three TESTS of week 0 with numbers, then those of week 1, each with its DAY. */
    private static int water(int first, int second, int third, int... daysAndNumbers) {
        CountyCream x = withFarms(100, 100);
        int[] early = {first, second, third};
        for (int i = 0; i < 3; i++) x.test(0, 3 * i, 0, early[i], 3 * i);
        for (int i = 0; i < daysAndNumbers.length; i += 2) x.test(0, daysAndNumbers[i], 0, daysAndNumbers[i + 1], daysAndNumbers[i]);
        return x.watered(0, 1, 195);
    }

    /** "a RATE that is below THE MEAN of its TESTS of earlier WEEKS (cut ..) by 40 or more". */
    private static void belowTheMean() {
        Due.due("34 by 40", water(400, 400, 400, 7, 360, 8, 360), 2);
        Due.due("34 one by 39", water(400, 400, 400, 7, 360, 8, 361), 0);
        Due.due("34 by 41", water(400, 400, 400, 7, 359, 8, 359), 2);
        // 1200, 1201, 1202, 1203 by 3
        Due.due("34 mean 400.33, cut", water(400, 400, 401, 7, 360, 8, 360), 2);
        Due.due("34 mean 400.67, cut", water(400, 401, 401, 7, 361, 8, 361), 0);
        Due.due("34 mean 401", water(401, 401, 401, 7, 361, 8, 361), 2);
        Due.due("34 mean 40, RATE 0", water(40, 40, 40, 7, 0, 8, 0), 2);
        Due.due("34 mean 39.67, RATE 0", water(40, 40, 39, 7, 0, 8, 0), 0);
        Due.due("34 mean 0", water(0, 0, 0, 7, 0, 8, 0), 0);
        Due.due("34 mean 1000", water(1000, 1000, 1000, 7, 960, 13, 0), 2);
        Due.due("34 above the mean", water(400, 400, 400, 7, 440, 8, 440), 0);
    }

    /** "(cut; three TESTS at least)": of any WEEKS ahead, of the FARM, KNOWN. */
    private static void threeEarlierTests() {
        CountyCream x = withFarms(100, 100, 100, 100);
        x.test(0, 195, 0, 0, 195);
        x.test(0, 189, 0, 0, 189);
        Due.due("34 none ahead", x.watered(0, 27, 195), 0);
        x.test(0, 0, 0, 900, 0);
        Due.due("34 one ahead", x.watered(0, 27, 195), 0);
        x.test(1, 1, 0, 900, 1);
        x.test(0, 100, 0, 900, 100);
        Due.due("34 two ahead, and another FARM's", x.watered(0, 27, 195), 0);
        x.test(0, 190, 0, 0, 190);
        Due.due("34 not those of the week", x.watered(0, 27, 195), 0);
        x.test(0, 188, 0, LAST, 188);
        Due.due("34 three ahead, LAST is one", x.watered(0, 27, 195), 3);
        Due.due("34 week 0 has none ahead", x.watered(0, 0, 195), 0);
    }

    /** "SIGNS are two or more, on two unlike DAYS at least". */
    private static void twoSigns() {
        Due.due("34 no TESTS there", water(400, 400, 400), 0);
        Due.due("34 one of one", water(400, 400, 400, 7, 0), 0);
        Due.due("34 two on one DAY", water(400, 400, 400, 7, 0, 7, 0), 0);
        Due.due("34 five on one DAY", water(400, 400, 400, 13, 0, 13, 0, 13, 0, 13, 0, 13, 0), 0);
        Due.due("34 two on two DAYS", water(400, 400, 400, 7, 0, 13, 0), 2);
        Due.due("34 two on one DAY, one ahead", water(400, 400, 400, 8, 0, 8, 0, 7, 0), 3);
        Due.due("34 the other DAY is no SIGN", water(400, 400, 400, 7, 0, 7, 0, 8, 400), 0);
        Due.due("34 seven DAYS", water(400, 400, 400, 7, 0, 8, 0, 9, 0, 10, 0, 11, 0, 12, 0, 13, 0), 7);
    }

    /** "and half of its TESTS there or more". */
    private static void halfOfThem() {
        Due.due("34 two of three", water(400, 400, 400, 7, 0, 8, 0, 9, 400), 2);
        Due.due("34 two of four", water(400, 400, 400, 7, 0, 8, 0, 9, 400, 9, 400), 2);
        Due.due("34 two of five", water(400, 400, 400, 7, 0, 8, 0, 9, 400, 9, 400, 9, 400), 0);
        Due.due("34 three of six", water(400, 400, 400, 7, 0, 8, 0, 9, 0, 9, 400, 9, 400, 9, 400), 3);
        Due.due("34 three of seven", water(400, 400, 400, 7, 0, 8, 0, 9, 0, 9, 400, 9, 400, 9, 400, 9, 400), 0);
        Due.due("34 a SIGN behind the others", water(400, 400, 400, 7, 400, 8, 400, 9, 0, 10, 0), 2);
    }

    /** "of a FARM in a WEEK, AS KNOWN". */
    private static void wateredAsKnown() {
        CountyCream x = withFarms(100, 100);
        for (int i = 0; i < 3; i++) x.test(0, i, 0, 400, 10 * i);
        x.test(0, 7, 0, 360, 30);
        x.test(0, 8, 0, 361, 40);
        x.right(4, 360, 50);
        x.right(0, 397, 60);
        int[][] due = {{0, 0}, {20, 0}, {39, 0}, {40, 0}, {49, 0}, {50, 2}, {59, 2}, {60, 0}, {195, 0}};
        for (int[] row : due) Due.due("34 as known on " + row[0], x.watered(0, 1, row[0]), row[1]);
        x.bias(0, -50);
        Due.due("34 a BIAS of all changes none", x.watered(0, 1, 50), 2);
        x.test(0, 9, 1, 410, 50);
        Due.due("34 by another HAND", x.watered(0, 1, 50), 3);
        x.bias(1, -1);
        Due.due("34 less its BIAS", x.watered(0, 1, 50), 2);
    }

    /** "from 100, 100 to FARMS and back, as the crow can not: |dx| + |dy| miles". */
    private static void milesAndBack() {
        int[][] places = {{0, 0, 400}, {200, 200, 400}, {0, 200, 400}, {200, 0, 400}, {100, 100, 0}, {99, 100, 2}, {100, 101, 2}, {0, 100, 200}};
        for (int[] p : places) {
            CountyCream x = withFarms(p[0], p[1]);
            x.sour(2000);
            Due.due("36 to " + p[0] + ", " + p[1], x.route(1), p[2]);
            Due.due("37 to " + p[0] + ", " + p[1], x.routeAt(1, 0), 0);
        }
        CountyCream y = withFarms(0, 0, 200, 200);
        y.sour(2000);
        Due.due("36 from end to end", y.route(3), 800);
        y.sour(3 * 600 + 5);
        Due.due("36 from end to end, in time", y.route(3), 800);
        y.sour(3 * 600 + 4);
        Due.due("36 from end to end, sour", y.route(3), NONE);
    }

    /** "Within SOUR minutes (1 .. 2000; 300 at first) of that they must be back": 3 minutes a mile. */
    private static void sourMinutes() {
        Due.due("36 100 miles back", withFarms(0, 100).route(1), 200);
        Due.due("36 101 miles back", withFarms(0, 101).route(1), NONE);
        Due.due("37 101 miles back", withFarms(0, 101).routeAt(1, 0), NONE);
        CountyCream x = withFarms(0, 0);
        x.sour(600);
        Due.due("36 just back", x.route(1), 400);
        x.sour(599);
        Due.due("36 not back", x.route(1), NONE);
        Due.due("36 none is left out of the set", withFarms(0, 0, 100, 100).route(3), NONE);
        CountyCream y = withFarms(100, 100, 101, 100);
        y.sour(1);
        Due.due("36 at the creamery", y.route(1), 0);
        Due.due("36 a mile off", y.route(2), NONE);
        y.sour(3);
        Due.due("36 a mile off, in time", y.route(2), 2);
        y.sour(2);
        Due.due("36 a mile off, sour", y.route(2), NONE);
    }

    /** "5 minutes at each FARM; its CANS are loaded as it leaves": the first FARM's own 5 do not count for its CANS. */
    private static void stopsTakeTime() {
        for (int farms = 1; farms <= 8; farms++) {
            CountyCream x = new CountyCream();
            for (int i = 0; i < farms; i++) x.farm(100, 100, 0, false);
            int all = (1 << farms) - 1;
            x.sour(Math.max(1, 5 * (farms - 1)));
            Due.due("36 " + farms + " at the creamery", x.route(all), 0);
            for (int i = 0; i < farms; i++) Due.due("37 " + i + " of " + farms, x.routeAt(all, i), i);
            if (farms == 1) continue;
            x.sour(5 * (farms - 1) - 1);
            Due.due("36 " + farms + " at the creamery, sour", x.route(all), NONE);
        }
    }

    private static void expectRoute(CountyCream x, int set, int miles, int... order) {
        Due.due("36 miles of " + set, x.route(set), miles);
        for (int i = 0; i < order.length; i++) Due.due("37 stop " + i + " of " + set, x.routeAt(set, i), order[i]);
        Due.due("37 behind the last of " + set, x.routeAt(set, order.length), NONE);
    }

    /** "the order with the fewest miles by which all are; of like ones the first by numbers." */
    private static void fewestMiles() {
        // On one line, 10, 30 and 20 off, and 30, 10 and 20 off: what is met on the way out may wait for the way back.
        expectRoute(withFarms(110, 100, 130, 100, 120, 100), 7, 60, 0, 1, 2);
        expectRoute(withFarms(130, 100, 110, 100, 120, 100), 7, 60, 0, 2, 1);
        // 0 and 1 lie far, 2 and 3 near: by 0 or 1 first it is 140 miles, by 2 first 120, 2, 1, 0, 3 being like it.
        CountyCream x = withFarms(120, 130, 130, 120, 100, 110, 110, 100);
        x.sour(2000);
        expectRoute(x, 15, 120, 2, 0, 1, 3);
        // 10, 20 and 30 off: by 0 first 50 miles with CANS and two FARMS, by 1 first 40, by 2 first 30.
        CountyCream y = withFarms(100, 110, 100, 120, 100, 130);
        expectRoute(y, 7, 60, 0, 1, 2);
        y.sour(3 * 50 + 9);
        expectRoute(y, 7, 60, 1, 2, 0);
        y.sour(3 * 40 + 9);
        expectRoute(y, 7, 60, 2, 1, 0);
        y.sour(3 * 30 + 10);
        expectRoute(y, 7, 60, 2, 1, 0);
        y.sour(3 * 30 + 9);
        Due.due("36 sour by any", y.route(7), NONE);
        Due.due("37 sour by any", y.routeAt(7, 2), NONE);
        // Some of the FARMS only: 2 first is 30 miles and one FARM.
        expectRoute(y, 5, 60, 2, 0);
        y.sour(3 * 30 + 5);
        expectRoute(y, 5, 60, 2, 0);
        y.sour(3 * 30 + 4);
        expectRoute(y, 5, NONE);
        y.sour(300);
        expectRoute(y, 5, 60, 0, 2);
        expectRoute(y, 6, 60, 1, 2);
        // FARMS that stand at one place.
        expectRoute(withFarms(105, 100, 105, 100, 105, 100), 7, 10, 0, 1, 2);
        expectRoute(withFarms(105, 100, 100, 100, 105, 100), 7, 10, 0, 2, 1);
    }

    /** "a set (8 FARMS at most)": any 8 of 20. */
    private static void eightFarms() {
        CountyCream x = new CountyCream();
        for (int i = 0; i < 20; i++) x.farm(100, 100 + i, 1, true);
        expectRoute(x, 0b10101010101010100000, 38, 5, 7, 9, 11, 13, 15, 17, 19);
        expectRoute(x, 0b11110000000000001111, 38, 0, 1, 2, 3, 16, 17, 18, 19);
        expectRoute(x, 1 << 19, 38, 19);
        Due.due("36 9 of 20", x.route(0b10101010101010100001), NO);
        Due.due("36 20 of 20", x.route((1 << 20) - 1), NO);
        Due.due("36 one that is none", x.route(1 << 20), BAD);
        Due.due("36 the greatest number", x.route(Integer.MAX_VALUE), BAD);
        Due.due("36 below 0", x.route(-1), BAD);
        Due.due("37 9 of 20", x.routeAt(0b10101010101010100001, 100), NO);
        Due.due("37 9 of 20, i below 0", x.routeAt(0b10101010101010100001, -1), BAD);
        Due.due("37 below 0", x.routeAt(-1, 0), BAD);
    }

    /** "The i-th FARM of it. NONE: none, not so many." */
    private static void stopsOfARoute() {
        CountyCream x = withFarms(110, 100, 120, 100);
        Due.due("37 of the empty set", x.routeAt(0, 0), NONE);
        Due.due("37 of the empty set", x.routeAt(0, Integer.MAX_VALUE), NONE);
        Due.due("37 of the empty set, BAD", x.routeAt(0, -1), BAD);
        // Asked without route() ahead, and of another set than last.
        Due.due("37 first", x.routeAt(3, 0), 0);
        Due.due("37 second", x.routeAt(3, 1), 1);
        Due.due("37 third", x.routeAt(3, 2), NONE);
        Due.due("37 eighth", x.routeAt(3, 7), NONE);
        Due.due("37 ninth", x.routeAt(3, 8), NONE);
        Due.due("37 another set", x.routeAt(2, 0), 1);
        Due.due("37 another set", x.routeAt(2, 1), NONE);
        x.sour(20);
        Due.due("37 sour", x.routeAt(3, 0), NONE);
        Due.due("37 sour, BAD", x.routeAt(3, -1), BAD);
    }

    private static CountyCream withCreams(int... numbers) {
        CountyCream x = new CountyCream();
        for (int i = 0; i < numbers.length; i += 3) x.cream(numbers[i], numbers[i + 1], numbers[i + 2]);
        return x;
    }

    /** "5 and 2 for each degree of its mean HEAT (cut) from 55, 10 times the greatest AGE, and 1 for each degree between". */
    private static void lossOfAHeap() {
        int[][] alone = {{1000, 55, 0, 5}, {1000, 54, 0, 7}, {1000, 56, 0, 7}, {1000, 40, 0, 35}, {1000, 80, 0, 55}, {1000, 55, 9, 95}, {1000, 80, 9, 145},
            {199, 55, 0, 0}, {200, 55, 0, 1}, {201, 55, 0, 1}, {1, 80, 9, 0}, {1000000, 80, 9, 145000}, {1000000, 55, 0, 5000}};
        for (int[] row : alone) {
            for (int k = 1; k <= 5; k++) {
                Due.due("40 FAT " + row[0] + ", HEAT " + row[1] + ", AGE " + row[2], withCreams(row[0], row[1], row[2]).together(k), row[3]);
            }
        }
        // Heats 40 and 80: alone 35 and 55, together mean 60: 5, 10 and 40.
        Due.due("40 40 and 80 alone", withCreams(1000, 40, 0, 1000, 80, 0).together(1), 90);
        Due.due("40 40 and 80 stay alone", withCreams(1000, 40, 0, 1000, 80, 0).together(2), 90);
        Due.due("40 much and little", withCreams(1000000, 40, 0, 1000, 80, 0).together(2), 35055);
        // The mean is of CREAMS, not of FAT: 54 and 56 are 55, so 7 thousandths of 4000 together, 21 and 7 alone.
        expectHeap(withCreams(3000, 54, 0, 1000, 56, 0), 2, 0, 0);
        // 50, 50 and 60 (mean 53.33, cut 53): 5, 4, 10 of 3000; 50 and 60 alone 15 each, 50 and 60 in a heap 5, 10.
        Due.due("40 three heats", withCreams(1000, 50, 0, 1000, 50, 0, 1000, 60, 0).together(3), 45);
        expectHeap(withCreams(1000, 50, 0, 1000, 50, 0, 1000, 60, 0), 3, 0, 0, 2);
        // AGE: the greatest of the heap counts for all of its FAT.
        Due.due("40 old and new", withCreams(1000, 55, 9, 1, 55, 0).together(2), 95);
        expectHeap(withCreams(1000, 55, 9, 1, 55, 0), 2, 0, 0);
        expectHeap(withCreams(1000, 55, 9, 100, 55, 0), 2, 0, 1);
        expectHeap(withCreams(1000, 55, 9, 1000, 55, 9), 2, 0, 0);
    }

    private static void expectHeap(CountyCream x, int k, int... heaps) {
        for (int cream = 0; cream < heaps.length; cream++) Due.due("41 cream " + cream + ", k " + k, x.heap(k, cream), heaps[cream]);
        Due.due("41 beyond", x.heap(k, heaps.length), BAD);
    }

    /** "heaps of at most k CREAMS (1 .. 5)". */
    private static void atMostK() {
        int[][] due = {{0, 1, 2, 3, 4, 5}, {0, 0, 2, 2, 4, 4}, {0, 0, 0, 3, 3, 3}, {0, 0, 0, 0, 4, 4}, {0, 0, 0, 0, 0, 5}};
        CountyCream x = new CountyCream();
        for (int i = 0; i < 6; i++) x.cream(1000, 55, 0);
        for (int k = 1; k <= 5; k++) {
            Due.due("40 k " + k, x.together(k), 30);
            expectHeap(x, k, due[k - 1]);
        }
        CountyCream y = new CountyCream();
        for (int i = 0; i < 5; i++) y.cream(1000, 55, 0);
        expectHeap(y, 5, 0, 0, 0, 0, 0);
        expectHeap(y, 4, 0, 0, 0, 0, 4);
    }

    /** heap() needs no together() ahead of it, and forgets the k and the CREAMS that were asked for last. */
    private static void heapAlone() {
        CountyCream x = withCreams(1000, 55, 0, 1000, 55, 0, 1000, 55, 0);
        Due.due("41 without together", x.heap(2, 1), 0);
        Due.due("41 another k", x.heap(1, 1), 1);
        Due.due("41 another k", x.heap(3, 2), 0);
        Due.due("41 another k", x.heap(2, 2), 2);
        x.together(1);
        Due.due("41 behind together of 1", x.heap(5, 2), 0);
        x.cream(1000, 55, 0);
        Due.due("41 of one CREAM more", x.heap(2, 3), 2);
        x.drain();
        Due.due("41 of none", x.heap(2, 0), BAD);
        x.cream(1, 40, 0);
        Due.due("41 of another", x.heap(2, 0), 0);
        Due.due("41 of another, no more", x.heap(2, 1), BAD);
        Due.due("40 of another", x.together(5), 0);
    }

    /** "heaps that lose least together, of like ones those fewest, then the row of heaps by CREAMS .., the first as numbers." */
    private static void fewestHeaps() {
        // Eight alone lose nothing, nor does any heap of them: fewest of at most k, then the first row.
        CountyCream x = new CountyCream();
        for (int i = 0; i < 8; i++) x.cream(1, 55, 0);
        Due.due("40 lose none", x.together(5), 0);
        expectHeap(x, 5, 0, 0, 0, 0, 0, 5, 5, 5);
        expectHeap(x, 4, 0, 0, 0, 0, 4, 4, 4, 4);
        expectHeap(x, 3, 0, 0, 0, 3, 3, 3, 6, 6);
        expectHeap(x, 1, 0, 1, 2, 3, 4, 5, 6, 7);
        // Least loss is ahead of fewest heaps: 100 and 100 lose 1 together, nothing apart.
        expectHeap(withCreams(100, 55, 0, 100, 55, 0), 2, 0, 1);
        // All pairs lose nothing: 0, 0, 2, 2 is ahead of 0, 1, 0, 1; but where 0 and 1 lose 1 together, that one is.
        expectHeap(withCreams(99, 55, 0, 99, 55, 0, 99, 55, 0, 99, 55, 0), 2, 0, 0, 2, 2);
        expectHeap(withCreams(100, 55, 0, 100, 55, 0, 99, 55, 0, 99, 55, 0), 2, 0, 1, 0, 1);
    }

    /** "CREAMS 0 .. 9 of a day": all ten, and the dearest of them. */
    private static void tenCreams() {
        CountyCream x = new CountyCream();
        for (int i = 0; i < 10; i++) Due.due("38 next", x.cream(1000000, 80, 9), i);
        Due.due("38 FULL", x.cream(1, 55, 0), FULL);
        for (int k = 1; k <= 5; k++) Due.due("40 dearest, k " + k, x.together(k), 1450000);
        expectHeap(x, 5, 0, 0, 0, 0, 0, 5, 5, 5, 5, 5);
        expectHeap(x, 4, 0, 0, 0, 0, 4, 4, 4, 4, 8, 8);
        expectHeap(x, 3, 0, 0, 0, 3, 3, 3, 6, 6, 6, 9);
        Due.due("39 all go", x.drain(), 10);
        Due.due("40 of none", x.together(5), 0);
        Due.due("54 of none", x.count(6), 0);
        for (int i = 0; i < 10; i++) Due.due("38 anew", x.cream(1, 55, 0), i);
        Due.due("40 anew", x.together(5), 0);
        Due.due("38 FULL again", x.cream(1, 55, 0), FULL);
    }

    /** "YIELD by weeks 0 .. 51 behind calving .. (none beyond 51, or below 0)". */
    private static void yieldOfWeeks() {
        CountyCream x = withFarms(100, 100);
        for (int week = 0; week < 52; week++) Due.due("42 0 at first", x.gives(week, 500 - week), 0);
        for (int calved = -51; calved <= 27; calved++) {
            if (calved > -51 && calved < 27 && calved % 8 != 0) continue;
            CountyCream y = withFarms(100, 100);
            for (int week = 0; week < 52; week++) y.gives(week, 500 - week);
            Due.due("43 in week " + calved, y.calved(0, calved, 60), 1);
            for (int week = 0; week <= 27; week++) {
                int behind = week - calved;
                Due.due("44 week " + week + " of " + calved, y.foretold(0, week), behind < 0 || behind > 51 ? 0 : 60 * (500 - behind));
            }
        }
        Due.due("44 no rows", x.foretold(0, 27), 0);
        Due.due("42 what it was", x.gives(51, 0), 449);
        Due.due("42 what it was", x.gives(51, 500), 0);
        Due.due("42 the other end", x.gives(0, 1), 500);
    }

    /** "CALVED: so many COWS (1 .. 60) of a FARM in a week (-51 .. 27), 40 rows at most." */
    private static void rowsCalved() {
        CountyCream x = withFarms(100, 100, 100, 100);
        x.gives(0, 500);
        x.gives(1, 1);
        for (int row = 1; row <= 40; row++) Due.due("43 row " + row, x.calved(row % 2, 5, 60), row);
        Due.due("43 FULL", x.calved(0, 5, 60), FULL);
        Due.due("43 FULL for another FARM too", x.calved(1, 27, 1), FULL);
        Due.due("54 rows", x.count(7), 40);
        Due.due("44 most", x.foretold(0, 5), 20 * 60 * 500);
        Due.due("44 another FARM", x.foretold(1, 6), 20 * 60);
        Due.due("44 the week ahead", x.foretold(0, 4), 0);
        Due.due("44 a YIELD of 0", x.foretold(0, 7), 0);
        // More COWS calve than a FARM has: nothing in the document forbids it.
        x.change(0, 0, false);
        Due.due("44 of no COWS now", x.foretold(0, 5), 20 * 60 * 500);
    }

    private static void expectOpen(String what, CountyCream x, long set, long cost) {
        Due.due("47 set, " + what, x.open(0), set);
        Due.due("47 cost, " + what, x.open(1), cost);
    }

    /** "the set, not empty, with the least COSTS and RATE .. times COWS times miles of each FARM to the nearest of them". */
    private static void costOfSites() {
        CountyCream x = withFarms(100, 100);
        x.site(100, 103, 10);
        expectOpen("one, RATE 1 at first", x, 1, 10 + 3);
        x.freight(0);
        expectOpen("one, RATE 0", x, 1, 10);
        x.freight(100);
        expectOpen("one, RATE 100", x, 1, 10 + 300);
        x.site(100, 100, 309);
        expectOpen("the dearer one is near", x, 2, 309);
        CountyCream y = new CountyCream();
        for (int i = 0; i < 20; i++) y.farm(i % 2 * 200, i % 2 * 200, 60, true);
        y.freight(100);
        y.site(0, 0, 1000000);
        expectOpen("one of two ends", y, 1, 1000000 + 10L * 60 * 400 * 100);
        y.site(200, 200, 1000000);
        expectOpen("both ends", y, 3, 2000000);
        for (int i = 0; i < 4; i++) y.site(100, 100, 0);
        expectOpen("a cheap one between is no help", y, 3, 2000000);
        y.freight(1);
        expectOpen("a cheap one between", y, 4, 20L * 60 * 200);
    }

    /** "of like ones the least number" of sets; COSTS of 0 make many alike. */
    private static void likeSites() {
        CountyCream x = new CountyCream();
        for (int i = 0; i < 6; i++) {
            x.site(i, i, 0);
            expectOpen("no FARM, " + (i + 1) + " of 0", x, 1, 0);
        }
        CountyCream y = withFarms(10, 10);
        y.site(10, 20, 5);
        y.site(20, 10, 5);
        y.site(10, 10, 15);
        expectOpen("three alike", y, 1, 15);
        y.freight(2);
        expectOpen("the third alone", y, 4, 15);
        y.freight(0);
        expectOpen("the first of two", y, 1, 5);
        y.change(0, 0, true);
        y.freight(100);
        expectOpen("a FARM without COWS", y, 1, 5);
        // 1 and 2 together are set 6, dearer alone, of like ones with 3 (0 and 1): the least number.
        CountyCream z = withFarms(0, 0, 100, 100);
        z.freight(100);
        z.site(0, 0, 7);
        z.site(100, 100, 7);
        z.site(0, 0, 7);
        expectOpen("3 and 6 alike", z, 3, 14);
    }

    /** "FARMS go to the nearest, of like ones the least number." */
    private static void nearestOfThree() {
        CountyCream x = withFarms(10, 10, 0, 0, 200, 200);
        x.site(10, 20, 0);
        x.site(25, 10, 0);
        x.site(10, 5, 0);
        x.site(15, 10, 0);
        x.site(200, 200, 0);
        x.site(0, 0, 0);
        Due.due("48 the second is farther, the third is nearer", x.nearest(0, 7), 2);
        Due.due("48 of like ones", x.nearest(0, 15), 2);
        Due.due("48 the like one alone", x.nearest(0, 11), 3);
        Due.due("48 the last", x.nearest(1, 63), 5);
        Due.due("48 from end to end", x.nearest(1, 16), 4);
        Due.due("48 at its place", x.nearest(2, 63), 4);
        Due.due("48 one alone", x.nearest(2, 32), 5);
        Due.due("48 a set beyond", x.nearest(0, 64), BAD);
        Due.due("48 a set beyond and one of them", x.nearest(0, 65), BAD);
    }

    private static long owed(int sum, int rate, int part, int n) {
        CountyCream x = new CountyCream();
        x.loan(sum, rate, part);
        return x.owed(0, n);
    }

    /** "Each week what is owed grows by (owed times rate by 1000, cut up) .., then the part (or all) is paid." */
    private static void weeksOwed() {
        Due.due("50 behind 0 weeks", owed(1, 100, 100000, 0), 1);
        Due.due("50 the part is all", owed(7, 0, 7, 1), 0);
        Due.due("50 the part is one less", owed(7, 0, 6, 1), 1);
        Due.due("50 the part is more", owed(7, 0, 8, 1), 0);
        Due.due("50 grown, the part is all", owed(1000, 1, 1001, 1), 0);
        Due.due("50 grown, the part is one less", owed(1000, 1, 1000, 1), 1);
        Due.due("50 1 by a thousandth is cut up to 1", owed(1, 1, 1, 1), 1);
        Due.due("50 so it stays", owed(1, 1, 1, 1000), 1);
        Due.due("50 rate 0 grows by none", owed(1, 0, 1, 1), 0);
        Due.due("50 just a thousandth", owed(1000, 1, 1, 1), 1000);
        Due.due("50 one more is cut up", owed(1001, 1, 1, 1), 1002);
        Due.due("50 999", owed(999, 1, 1, 1), 999);
        Due.due("50 rate 100", owed(10, 100, 1, 1), 10);
        Due.due("50 rate 100, cut up", owed(11, 100, 1, 1), 12);
        Due.due("50 two weeks", owed(11, 100, 1, 2), 13);
        Due.due("50 nothing grows of nothing", owed(5, 100, 100000, 1000), 0);
        Due.due("50 greatest", owed(1000000, 100, 1, 1), 1099999);
        Due.due("50 greatest part", owed(1000000, 100, 100000, 1), 1000000);
        Due.due("50 greatest part for ever", owed(1000000, 100, 100000, 1000), 1000000);
    }

    /** "to 1000000000000 at most, then the part (or all) is paid". */
    private static void mostOwed() {
        Due.due("50 at most, less 1", owed(1000000, 100, 1, 1000), 999999999999L);
        Due.due("50 at most, less 10", owed(1000, 100, 10, 1000), 999999999990L);
        Due.due("50 at most, less 99999", owed(1000000, 100, 99999, 1000), 999999900001L);
        CountyCream x = new CountyCream();
        x.loan(1000000, 100, 1);
        long owed = 1000000;
        boolean reached = false;
        for (int n = 1; n <= 200; n++) {
            long grown = owed + owed / 10 + (owed % 10 == 0 ? 0 : 1);
            owed = Math.min(1000000000000L, grown) - 1;
            reached = reached || grown > 1000000000000L;
            Due.due("50 behind " + n, x.owed(0, n), owed);
        }
        Due.due("50 the most was reached", reached);
        Due.due("51 never", x.ends(0), NONE);
    }

    private static int ends(int sum, int rate, int part) {
        CountyCream x = new CountyCream();
        x.loan(sum, rate, part);
        return x.ends(0);
    }

    /** "ENDS: the first week behind which nothing is owed; none by 1000." */
    private static void endOfLoans() {
        Due.due("51 behind the first", ends(1, 0, 1), 1);
        Due.due("51 behind the first, by more", ends(1, 100, 100000), 1);
        Due.due("51 two weeks", ends(2, 0, 1), 2);
        Due.due("51 999 weeks", ends(999, 0, 1), 999);
        Due.due("51 1000 weeks", ends(1000, 0, 1), 1000);
        Due.due("51 1001 weeks", ends(1001, 0, 1), NONE);
        Due.due("51 1000 weeks of 1000", ends(1000000, 0, 1000), 1000);
        Due.due("51 1000 weeks of 1000, one left", ends(1000000, 0, 999), NONE);
        Due.due("51 it never ends", ends(1, 1, 1), NONE);
        Due.due("51 it stays", ends(1000000, 100, 100000), NONE);
        CountyCream x = new CountyCream();
        for (int i = 0; i < 6; i++) Due.due("49 next", x.loan(5, 0, i + 1), i);
        int[] due = {5, 3, 2, 2, 1, 1};
        for (int i = 0; i < 6; i++) {
            Due.due("51 loan " + i, x.ends(i), due[i]);
            Due.due("50 behind its end", x.owed(i, due[i]), 0);
            Due.due("50 ahead of its end", x.owed(i, due[i] - 1) > 0);
            Due.due("50 behind 1000", x.owed(i, 1000), 0);
        }
    }

    /** "IMAGES 0, 1 keep all that is told (but IMAGES); the house goes on from one as it was." Of nothing, too. */
    private static void emptyImage() {
        CountyCream x = new CountyCream();
        long empty = x.digest();
        Due.due("53 none was kept", x.from(0), NO);
        Due.due("52 of nothing", x.image(1), 1);
        Due.due("53 the other was not", x.from(0), NO);
        x.farm(1, 1, 1, true);
        x.write(5, 'w');
        x.cream(1, 55, 0);
        x.sour(7);
        x.freight(9);
        x.gives(51, 9);
        x.period(28);
        x.bias(3, -50);
        Due.due("53 of nothing", x.from(1), 1);
        Due.due("55 as a new object", x.digest(), empty);
        Due.due("54 no CREAM", x.count(6), 0);
        Due.due("40 no CREAM", x.together(5), 0);
        Due.due("24 no TEXT", x.fault(5), 1);
        Due.due("35 SOUR", x.sour(7), 300);
        Due.due("46 RATE", x.freight(9), 1);
        Due.due("42 YIELD", x.gives(51, 9), 0);
        Due.due("2 the first again", x.farm(2, 2, 2, false), 0);
        Due.due("53 still none was kept in the other", x.from(0), NO);
        Due.due("53 again", x.from(1), 1);
        Due.due("55 again", x.digest(), empty);
    }

    /** A house that is full in all it can be within the calls: it is as it was, behind an image of an empty one. */
    private static void imageOfAllFull() {
        CountyCream x = new CountyCream();
        x.image(0);
        for (int i = 0; i < 20; i++) x.farm(100 + i, 100 - i, 3 * i, i % 3 != 0);
        for (int i = 0; i < 40; i++) x.churn(i, 40 + i);
        for (int i = 0; i < 100; i++) x.box(i % 40);
        for (int i = 0; i < 60; i++) x.write(5, i % 2 == 0 ? 'w' : '+');
        x.write(0, 'c');
        for (int i = 0; i < 10; i++) x.motion(0, i, i % 2 == 0);
        for (int i = 1; i < 20; i++) x.vote(9, i, 1);
        for (int i = 0; i < 10; i++) x.cream(1000 + i, 50 + i, i);
        for (int i = 0; i < 40; i++) x.calved(i % 20, i - 20, 1 + i);
        for (int i = 0; i < 6; i++) x.site(i, i, i);
        for (int i = 0; i < 6; i++) x.loan(100 + i, i, 1 + i);
        for (int i = 0; i < 60; i++) x.can(i % 20, i, 1 + i);
        long digest = x.digest();
        long[] asked = {x.together(5), x.heap(5, 9), x.foretold(19, 27), x.open(1), x.owed(5, 1), x.motionAt(9, 0), x.nearest(19, 63)};
        x.image(1);
        x.from(0);
        Due.due("54 empty", x.count(0) + x.count(1) + x.count(3) + x.count(4) + x.count(5) + x.count(6) + x.count(7) + x.count(8) + x.count(9), 0);
        x.farm(9, 9, 9, false);
        x.from(1);
        Due.due("55 full again", x.digest(), digest);
        long[] again = {x.together(5), x.heap(5, 9), x.foretold(19, 27), x.open(1), x.owed(5, 1), x.motionAt(9, 0), x.nearest(19, 63)};
        for (int i = 0; i < asked.length; i++) Due.due("53 answer " + i, again[i], asked[i]);
        Due.due("2 FULL", x.farm(1, 1, 1, true), FULL);
        Due.due("12 FULL", x.churn(1, 50), FULL);
        Due.due("16 FULL", x.box(1), FULL);
        Due.due("22 FULL", x.write(5, 'w'), FULL);
        Due.due("26 FULL", x.motion(0, 1, true), FULL);
        Due.due("38 FULL", x.cream(1, 50, 0), FULL);
        Due.due("43 FULL", x.calved(0, 0, 1), FULL);
        Due.due("45 FULL", x.site(0, 0, 0), FULL);
        Due.due("49 FULL", x.loan(1, 1, 1), FULL);
    }

    /** The two are apart from each other and from the house; the last image of a number counts. */
    private static void imagesApart() {
        CountyCream x = new CountyCream();
        x.farm(1, 1, 1, true);
        x.image(0);
        x.image(1);
        x.change(0, 2, true);
        x.image(1);
        x.change(0, 3, true);
        x.write(0, 'c');
        x.from(0);
        Due.due("53 the text is gone", x.fault(0), 1);
        x.write(0, 'c');
        Due.due("53 of 0", x.tells(0, 0, 0, 0), 1);
        x.from(1);
        x.write(0, 'c');
        Due.due("53 of 1", x.tells(0, 0, 0, 0), 2);
        x.image(0);
        x.change(0, 4, true);
        x.from(0);
        Due.due("53 of 0, kept anew", x.tells(0, 0, 0, 0), 2);
        x.from(1);
        Due.due("53 of 1, without the text", x.fault(0), 1);
    }

    /** "How many", as they come, and none for what is not counted. */
    private static void counts() {
        CountyCream x = new CountyCream();
        x.write(0, '1');
        x.churn(5, 55);
        for (int i = 1; i <= 6; i++) {
            x.farm(1, 1, 1, true);
            x.can(0, 5, 5);
            x.test(0, 5, 0, LAST, 5);
            x.churn(5, 55);
            x.box(0);
            x.motion(0, 5, true);
            x.cream(1, 55, 0);
            x.calved(0, 0, 1);
            x.site(1, 1, 1);
            x.loan(1, 1, 1);
            for (int what = 0; what <= 9; what++) Due.due("54 count " + what, x.count(what), what == 3 ? i + 1 : i);
        }
        for (int what : new int[] {-1, 10, Integer.MIN_VALUE, Integer.MAX_VALUE}) Due.due("54 BAD", x.count(what), BAD);
    }
}
