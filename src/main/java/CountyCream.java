import java.util.Arrays;

/** Creameries of a county: what ../shared/DOC.md promises, in the part of Java that ../shared/LANGUAGE.md leaves. */
public final class CountyCream {
    public static final int NONE = -1, BAD = -2, NO = -3, FULL = -4;
    public static final int LAST = -7;

    private static final int LAST_DAY = 195, LAST_WEEK = 27, WEEK_DAYS = 7;
    private static final int FARMS = 20, TESTS = 200, HANDS = 4, TEXTS = 6, TEXT_LENGTH = 60;
    private static final int USUAL_RATE = 350, THOUSAND = 1000;

    // Columns stand in the order in which digest() tells them.
    private static final int X = 0, Y = 1, COWS = 2, MEMBER = 3;
    private static final int FARM = 0, DAY = 1, WEIGHT = 2, CHURN = 3;
    private static final int HAND = 2, NUMBER = 3, KNOWN = 4, RIGHT_NUMBER = 5, RIGHT_KNOWN = 6;
    private static final int CHURN_DAY = 0, HEAT = 1, WEIGHED_OUT = 2;
    private static final int BOX_CHURN = 0, PENCE = 1, SOLD_KNOWN = 2, GRADES = 3;
    private static final int LENGTH = 0;
    private static final int MOTION_FROM = 0, BY_COWS = 1, VOID = 2, MOTION_TEXT = 3, VOTES = 4 + TEXT_LENGTH;
    private static final int CREAM_FAT = 0, CREAM_HEAT = 1, CREAM_AGE = 2;
    private static final int CALVED_FARM = 0, CALVED_WEEK = 1, CALVED_COWS = 2;
    private static final int COST = 2;
    private static final int SUM = 0, LOAN_RATE = 1, PART = 2;

    private static final int BAD_BIAS = -1000, BAD_LOT = -1000, NO_LOT = -2000, BAD_VOTE = -10, NO_VOTE = -20;
    private static final long TELLS_NONE = -1000000000000000000L, TELLS_BAD = -2000000000000000000L;
    private static final long TELLS_NO = -3000000000000000000L;

    private final House house = new House();
    private final House[] images = {new House(), new House()};
    private final boolean[] kept = new boolean[2];
    private final Lab lab = new Lab(house);
    private final Dairy dairy = new Dairy(house, lab);
    private final Reader reader = new Reader();
    private final Ballot ballot = new Ballot(house);
    private final Payday payday = new Payday(house, lab, reader, ballot);
    private final Cart cart = new Cart(house);
    private final Blend blend = new Blend(house.creams);
    private final Yard yard = new Yard(house);

    public CountyCream() {
    }

    // ---- farms, cans, tests

    public int farm(int x, int y, int cows, boolean member) {
        if (!isPlace(x, y) || !within(cows, 0, 60)) return BAD;
        int farm = house.farms.come(x, y, cows);
        house.farms.put(farm, MEMBER, asNumber(member));
        return farm;
    }

    public int change(int farm, int cows, boolean member) {
        if (!house.farms.has(farm) || !within(cows, 0, 60)) return BAD;
        house.farms.put(farm, COWS, cows);
        house.farms.put(farm, MEMBER, asNumber(member));
        return 1;
    }

    public int can(int farm, int day, int weight) {
        if (!house.farms.has(farm) || !isDay(day) || !within(weight, 1, THOUSAND)) return BAD;
        return house.cans.come(farm, day, weight);
    }

    public int test(int farm, int day, int hand, int v, int known) {
        if (!house.farms.has(farm) || !isDay(day) || !isHand(hand)) return BAD;
        if (v != LAST && !within(v, 0, THOUSAND)) return BAD;
        if (!within(known, day, LAST_DAY)) return BAD;
        int test = house.tests.come(farm, day, hand);
        house.tests.put(test, NUMBER, v);
        house.tests.put(test, KNOWN, known);
        return test;
    }

    public int right(int test, int v, int known) {
        Rows tests = house.tests;
        if (!tests.has(test) || !within(v, 0, THOUSAND)) return BAD;
        if (!within(known, tests.at(test, KNOWN), LAST_DAY)) return BAD;
        if (tests.at(test, RIGHT_KNOWN) != NONE) return NO;
        tests.put(test, RIGHT_NUMBER, v);
        tests.put(test, RIGHT_KNOWN, known);
        return 1;
    }

    public int bias(int hand, int v) {
        if (!isHand(hand) || !within(v, -50, 50)) return BAD_BIAS;
        int was = house.bias[hand];
        house.bias[hand] = v;
        return was;
    }

    public int period(int days) {
        if (!within(days, 1, 28)) return BAD;
        int was = house.periodDays;
        house.periodDays = days;
        return was;
    }

    public int rate(int test, int k) {
        if (!house.tests.has(test) || !isDay(k)) return BAD;
        return lab.rateAsKnown(test, k);
    }

    public int canRate(int can, int k) {
        if (!house.cans.has(can) || !isDay(k)) return BAD;
        lab.learn(k);
        return lab.rateOfCan(can);
    }

    public long fat(int farm, int week, int k) {
        if (!house.farms.has(farm) || !isWeek(week) || !isDay(k)) return BAD;
        lab.learn(k);
        return lab.fatOfWeek(farm, week);
    }

    // ---- churns, boxes

    public int churn(int day, int heat) {
        if (!isDay(day) || !within(heat, 40, 80)) return BAD;
        return house.churns.come(day, heat, NONE);
    }

    public int fill(int churn, int can) {
        if (!house.churns.has(churn) || !house.cans.has(can)) return BAD;
        if (house.cans.at(can, CHURN) != NONE) return NO;
        int age = house.churns.at(churn, CHURN_DAY) - house.cans.at(can, DAY);
        if (!within(age, 0, 9)) return NO;
        house.cans.put(can, CHURN, churn);
        return 1;
    }

    public long about(int churn, int k, int what) {
        if (!house.churns.has(churn) || !isDay(k)) return BAD;
        lab.learn(k);
        switch (what) {
            case 0: return dairy.howManyCans(churn);
            case 1: return dairy.lossOf(churn);
            case 2: return dairy.fatOf(churn, NONE);
            case 3: return dairy.butterOf(churn);
            case 4: return dairy.agrees(churn);
            case 5: return dairy.howManyBoxes(churn);
            case 6: return dairy.penceOf(churn, k);
            default: return BAD;
        }
    }

    public int out(int churn, int v) {
        if (!house.churns.has(churn) || !within(v, 0, 300000000)) return BAD;
        if (house.churns.at(churn, WEIGHED_OUT) != NONE) return NO;
        house.churns.put(churn, WEIGHED_OUT, v);
        return 1;
    }

    public int box(int churn) {
        if (!house.churns.has(churn)) return BAD;
        return house.boxes.come(churn, NONE, NONE);
    }

    public int sell(int box, int pence, int known) {
        Rows boxes = house.boxes;
        if (!boxes.has(box) || !within(pence, 0, 1000000)) return BAD;
        int made = house.churns.at(boxes.at(box, BOX_CHURN), CHURN_DAY);
        if (!within(known, made, LAST_DAY)) return BAD;
        if (boxes.at(box, SOLD_KNOWN) != NONE) return NO;
        boxes.put(box, PENCE, pence);
        boxes.put(box, SOLD_KNOWN, known);
        return 1;
    }

    public int grade(int box, int grader, int v) {
        if (!house.boxes.has(box) || !within(grader, 0, 1) || !within(v, 0, 100)) return BAD;
        int was = house.boxes.at(box, GRADES + grader);
        house.boxes.put(box, GRADES + grader, v);
        return was;
    }

    public int lean() {
        return dairy.leanOfGraders();
    }

    public int lot(int churn, int what) {
        if (!house.churns.has(churn) || !within(what, 0, 3)) return BAD_LOT;
        return dairy.lotOf(churn, what);
    }

    public long lead(int churn, int farm, int k) {
        if (!house.churns.has(churn) || !house.farms.has(farm) || !isDay(k)) return BAD;
        lab.learn(k);
        return dairy.fatOf(churn, farm);
    }

    // ---- texts, motions, pay

    public int write(int text, int character) {
        Rows texts = house.texts;
        if (!texts.has(text) || !within(character, 0, 127)) return BAD;
        int length = texts.at(text, LENGTH);
        if (length >= TEXT_LENGTH) return FULL;
        texts.put(text, LENGTH + 1 + length, character);
        texts.put(text, LENGTH, length + 1);
        return length + 1;
    }

    public int erase(int text) {
        if (!house.texts.has(text)) return BAD;
        int length = house.texts.at(text, LENGTH);
        house.texts.put(text, LENGTH, 0);
        return length;
    }

    public int fault(int text) {
        if (!house.texts.has(text)) return BAD;
        reader.load(house.texts, text, LENGTH);
        return reader.read();
    }

    public long tells(int text, int farm, int week, int k) {
        if (!house.texts.has(text) || !house.farms.has(farm)) return TELLS_BAD;
        if (!isWeek(week) || !isDay(k)) return TELLS_BAD;
        reader.load(house.texts, text, LENGTH);
        payday.gather(week, k);
        payday.nameFor(farm);
        if (reader.read() != NONE) return TELLS_NO;
        return reader.none ? TELLS_NONE : reader.told;
    }

    public int motion(int text, int from, boolean byCows) {
        if (!house.texts.has(text) || !isDay(from)) return BAD;
        reader.load(house.texts, text, LENGTH);
        if (reader.read() != NONE) return NO;
        return ballot.propose(text, from, asNumber(byCows));
    }

    public int vote(int motion, int farm, int how) {
        Rows motions = house.motions;
        if (!motions.has(motion) || !house.farms.has(farm) || !within(how, -1, 1)) return BAD_VOTE;
        if (house.farms.at(farm, MEMBER) != 1 || motions.at(motion, VOID) == 1) return NO_VOTE;
        int was = motions.at(motion, VOTES + farm);
        motions.put(motion, VOTES + farm, how);
        return was;
    }

    public int tear(int motion, boolean is) {
        if (!house.motions.has(motion)) return BAD;
        if (house.motions.at(motion, VOID) == asNumber(is)) return NO;
        house.motions.put(motion, VOID, asNumber(is));
        return 1;
    }

    public int motionAt(int motion, int what) {
        if (!house.motions.has(motion) || !within(what, 0, 4)) return BAD;
        return ballot.tellOf(motion, what);
    }

    public int force(int day) {
        if (!isDay(day)) return BAD;
        return ballot.inForce(day);
    }

    public long money(int week, int k) {
        if (!isWeek(week) || !isDay(k)) return BAD;
        return payday.penceOfWeek(week, k);
    }

    public long pay(int week, int farm, int k) {
        if (!isWeek(week) || !house.farms.has(farm) || !isDay(k)) return BAD;
        payday.gather(week, k);
        payday.findShares(week);
        return payday.partOf(farm, payday.penceOfWeek(week, k));
    }

    public long share(int week, int farm, int k) {
        if (!isWeek(week) || !house.farms.has(farm) || !isDay(k)) return BAD;
        payday.gather(week, k);
        payday.findShares(week);
        return farm < FARMS ? payday.shares[farm] : 0;
    }

    // ---- watered, carts, creams

    public int watered(int farm, int week, int k) {
        if (!house.farms.has(farm) || !isWeek(week) || !isDay(k)) return BAD;
        lab.learn(k);
        return lab.signsOfWater(farm, week);
    }

    public int sour(int minutes) {
        if (!within(minutes, 1, 2000)) return BAD;
        int was = house.sourMinutes;
        house.sourMinutes = minutes;
        return was;
    }

    public int route(int set) {
        if (!isSet(set, house.farms)) return BAD;
        if (Integer.bitCount(set) > Cart.STOPS) return NO;
        cart.plan(set);
        return cart.total;
    }

    public int routeAt(int set, int i) {
        if (!isSet(set, house.farms) || i < 0) return BAD;
        if (Integer.bitCount(set) > Cart.STOPS) return NO;
        cart.plan(set);
        return cart.stopAt(i);
    }

    public int cream(int fat, int heat, int age) {
        if (!within(fat, 1, 1000000) || !within(heat, 40, 80) || !within(age, 0, 9)) return BAD;
        return house.creams.come(fat, heat, age);
    }

    public int drain() {
        int were = house.creams.many;
        house.creams.many = 0;
        return were;
    }

    public long together(int k) {
        if (!within(k, 1, 5)) return BAD;
        blend.plan(k);
        return blend.lost();
    }

    public int heap(int k, int cream) {
        if (!within(k, 1, 5) || !house.creams.has(cream)) return BAD;
        blend.plan(k);
        return blend.leastOfHeap(cream);
    }

    // ---- winter, sites, loans

    public int gives(int week, int v) {
        if (week < 0 || week >= house.yields.length || !within(v, 0, 500)) return BAD;
        int was = house.yields[week];
        house.yields[week] = v;
        return was;
    }

    public int calved(int farm, int week, int cows) {
        if (!house.farms.has(farm) || !within(week, -51, LAST_WEEK) || !within(cows, 1, 60)) return BAD;
        int row = house.calvings.come(farm, week, cows);
        return row == FULL ? FULL : house.calvings.many;
    }

    public int foretold(int farm, int week) {
        if (!house.farms.has(farm) || !isWeek(week)) return BAD;
        Rows calvings = house.calvings;
        int sum = 0;
        for (int i = 0; i < calvings.many; i++) {
            int behind = week - calvings.at(i, CALVED_WEEK);
            if (calvings.at(i, CALVED_FARM) == farm && behind >= 0 && behind < house.yields.length) {
                sum += calvings.at(i, CALVED_COWS) * house.yields[behind];
            }
        }
        return sum;
    }

    public int site(int x, int y, int cost) {
        if (!isPlace(x, y) || !within(cost, 0, 1000000)) return BAD;
        return house.sites.come(x, y, cost);
    }

    public int freight(int rate) {
        if (!within(rate, 0, 100)) return BAD;
        int was = house.freightRate;
        house.freightRate = rate;
        return was;
    }

    public long open(int what) {
        if (!within(what, 0, 1)) return BAD;
        if (house.sites.many == 0) return NO;
        yard.plan();
        return what == 0 ? yard.bestSet : yard.bestCost;
    }

    public int nearest(int farm, int set) {
        if (!house.farms.has(farm) || set == 0 || !isSet(set, house.sites)) return BAD;
        return yard.nearestOf(farm, set);
    }

    public int loan(int sum, int rate, int part) {
        if (!within(sum, 1, 1000000) || !within(rate, 0, 100) || !within(part, 1, 100000)) return BAD;
        return house.loans.come(sum, rate, part);
    }

    public long owed(int loan, int n) {
        if (!house.loans.has(loan) || !within(n, 0, Bank.WEEKS)) return BAD;
        long owed = house.loans.at(loan, SUM);
        for (int i = 0; i < n; i++) owed = Bank.behindAWeek(house.loans, loan, owed);
        return owed;
    }

    public int ends(int loan) {
        if (!house.loans.has(loan)) return BAD;
        long owed = house.loans.at(loan, SUM);
        for (int week = 1; week <= Bank.WEEKS; week++) {
            owed = Bank.behindAWeek(house.loans, loan, owed);
            if (owed == 0) return week;
        }
        return NONE;
    }

    // ---- images

    public int image(int i) {
        if (i < 0 || i >= images.length || i >= kept.length) return BAD;
        images[i].become(house);
        kept[i] = true;
        return 1;
    }

    public int from(int i) {
        if (i < 0 || i >= images.length || i >= kept.length) return BAD;
        if (!kept[i]) return NO;
        house.become(images[i]);
        return 1;
    }

    public int count(int what) {
        switch (what) {
            case 0: return house.farms.many;
            case 1: return house.cans.many;
            case 2: return house.tests.many;
            case 3: return house.churns.many;
            case 4: return house.boxes.many;
            case 5: return house.motions.many;
            case 6: return house.creams.many;
            case 7: return house.calvings.many;
            case 8: return house.sites.many;
            case 9: return house.loans.many;
            default: return BAD;
        }
    }

    public long digest() {
        long h = 281;
        for (int what = 0; what <= 9; what++) h = 31 * h + count(what);
        h = house.farms.digestOn(h);
        h = house.cans.digestOn(h);
        h = house.tests.digestOn(h);
        for (int hand = 0; hand < house.bias.length; hand++) h = 31 * h + house.bias[hand];
        h = 31 * h + house.periodDays;
        h = house.churns.digestOn(h);
        h = house.boxes.digestOn(h);
        h = digestOfTexts(h);
        for (int motion = 0; motion < house.motions.many; motion++) {
            for (int what = 0; what <= 4; what++) h = 31 * h + ballot.tellOf(motion, what);
        }
        return h;
    }

    private long digestOfTexts(long begun) {
        long h = begun;
        for (int text = 0; text < house.texts.many; text++) {
            int length = house.texts.at(text, LENGTH);
            for (int i = 0; i <= length; i++) h = 31 * h + house.texts.at(text, LENGTH + i);
        }
        return h;
    }

    // ---- what is as told

    private static boolean within(int v, int least, int most) {
        return v >= least && v <= most;
    }

    private static boolean isDay(int day) {
        return within(day, 0, LAST_DAY);
    }

    private static boolean isWeek(int week) {
        return within(week, 0, LAST_WEEK);
    }

    private static boolean isHand(int hand) {
        return within(hand, 0, HANDS - 1);
    }

    private static boolean isPlace(int x, int y) {
        return within(x, 0, 200) && within(y, 0, 200);
    }

    /** Of rows that are at most 20, so that the shift says all. */
    private static boolean isSet(int set, Rows rows) {
        return set >= 0 && set >> rows.many == 0;
    }

    private static int asNumber(boolean truth) {
        return truth ? 1 : 0;
    }

    private static boolean holds(int set, int i) {
        return (set >> i & 1) == 1;
    }

    private static int milesBetween(Rows ones, int one, Rows others, int other) {
        return Math.abs(ones.at(one, X) - others.at(other, X)) + Math.abs(ones.at(one, Y) - others.at(other, Y));
    }

    /** The machine would throw on 0; no caller has it, but the guard stands where the divisor is used. */
    private static long cut(long sum, long by) {
        return by == 0 ? 0 : sum / by;
    }

    /** Rows of numbers, as they come. All places are looked at here, so that no caller can reach beyond. */
    private static final class Rows {
        final int most;
        final int width;
        final int[] cells;
        int many;

        Rows(int most, int width) {
            this.most = most;
            this.width = width;
            cells = new int[Math.max(0, most * width)];
        }

        boolean has(int row) {
            return row >= 0 && row < many;
        }

        /** A new row of three numbers, all else NONE: its number, or FULL. */
        int come(int first, int second, int third) {
            if (many >= most) return FULL;
            int row = many;
            many++;
            for (int column = 0; column < width; column++) put(row, column, NONE);
            put(row, 0, first);
            put(row, 1, second);
            put(row, 2, third);
            return row;
        }

        int at(int row, int column) {
            if (row < 0 || row >= many || column < 0 || column >= width) return NONE;
            int place = row * width + column;
            return place < cells.length ? cells[place] : NONE;
        }

        void put(int row, int column, int v) {
            if (row < 0 || row >= many || column < 0 || column >= width) return;
            int place = row * width + column;
            if (place < cells.length) cells[place] = v;
        }

        void become(Rows other) {
            int cellsThere = Math.min(Math.min(cells.length, other.cells.length), other.many * other.width);
            System.arraycopy(other.cells, 0, cells, 0, cellsThere);
            many = Math.min(most, other.many);
        }

        long digestOn(long begun) {
            long h = begun;
            for (int row = 0; row < many; row++) {
                for (int column = 0; column < width; column++) h = 31 * h + at(row, column);
            }
            return h;
        }
    }

    /** All that is told, but IMAGES. */
    private static final class House {
        final Rows farms = new Rows(FARMS, 4);
        final Rows cans = new Rows(300, 4);
        final Rows tests = new Rows(TESTS, 7);
        final Rows churns = new Rows(40, 3);
        final Rows boxes = new Rows(100, 5);
        final Rows texts = new Rows(TEXTS, 1 + TEXT_LENGTH);
        final Rows motions = new Rows(10, VOTES + FARMS);
        final Rows creams = new Rows(Blend.CREAMS, 3);
        final Rows calvings = new Rows(40, 3);
        final Rows sites = new Rows(6, 3);
        final Rows loans = new Rows(6, 3);
        final int[] bias = new int[HANDS];
        final int[] yields = new int[52];
        int periodDays = 7;
        int sourMinutes = 300;
        int freightRate = 1;

        House() {
            for (int text = 0; text < TEXTS; text++) texts.come(0, NONE, NONE);
        }

        void become(House other) {
            farms.become(other.farms);
            cans.become(other.cans);
            tests.become(other.tests);
            churns.become(other.churns);
            boxes.become(other.boxes);
            texts.become(other.texts);
            motions.become(other.motions);
            creams.become(other.creams);
            calvings.become(other.calvings);
            sites.become(other.sites);
            loans.become(other.loans);
            for (int i = 0; i < bias.length && i < other.bias.length; i++) bias[i] = other.bias[i];
            for (int i = 0; i < yields.length && i < other.yields.length; i++) yields[i] = other.yields[i];
            periodDays = other.periodDays;
            sourMinutes = other.sourMinutes;
            freightRate = other.freightRate;
        }

        int biasOf(int hand) {
            return hand < 0 || hand >= bias.length ? 0 : bias[hand];
        }
    }

    /** What TESTS say of milk, AS KNOWN at a DAY. */
    private static final class Lab {
        private static final int WATERED_BY = 40, EARLIER_TESTS = 3;
        final House house;
        final Rows tests;
        /** Of each TEST as known at the day of learn(); NONE: not known. One row for all calls: no call makes any. */
        final int[] rates = new int[TESTS];

        Lab(House house) {
            this.house = house;
            this.tests = house.tests;
        }

        /** Must be called before the functions that tell of no K: many CANS ask for the same RATES. */
        void learn(int k) {
            for (int test = 0; test < tests.many && test < rates.length; test++) rates[test] = rateAsKnown(test, k);
        }

        int rateLearned(int test) {
            return test < 0 || test >= rates.length ? NONE : rates[test];
        }

        private boolean isKnown(int test, int k) {
            return tests.at(test, KNOWN) <= k;
        }

        private int numberKnown(int test, int k) {
            int known = tests.at(test, RIGHT_KNOWN);
            return known != NONE && known <= k ? tests.at(test, RIGHT_NUMBER) : tests.at(test, NUMBER);
        }

        int rateAsKnown(int test, int k) {
            if (!isKnown(test, k)) return NONE;
            int source = numberKnown(test, k) == LAST ? latestAheadOf(test, k) : test;
            if (source == NONE) return USUAL_RATE;
            int rate = numberKnown(source, k) - house.biasOf(tests.at(source, HAND));
            return Math.max(0, Math.min(THOUSAND, rate));
        }

        private int latestAheadOf(int test, int k) {
            int farm = tests.at(test, FARM);
            int latest = NONE;
            for (int i = 0; i < tests.many; i++) {
                if (tests.at(i, FARM) != farm || !isAhead(i, test)) continue;
                if (!isKnown(i, k) || numberKnown(i, k) == LAST) continue;
                if (latest == NONE || isAhead(latest, i)) latest = i;
            }
            return latest;
        }

        private boolean isAhead(int one, int other) {
            int oneDay = tests.at(one, DAY);
            int otherDay = tests.at(other, DAY);
            return oneDay < otherDay || oneDay == otherDay && one < other;
        }

        /** One pass: a later PERIOD, up to the CAN's own, starts the sum again. */
        int rateOfCan(int can) {
            int farm = house.cans.at(can, FARM);
            long own = cut(house.cans.at(can, DAY), house.periodDays);
            long latest = NONE;
            int sum = 0;
            int many = 0;
            for (int test = 0; test < tests.many; test++) {
                int rate = rateLearned(test);
                if (rate == NONE || tests.at(test, FARM) != farm) continue;
                long period = cut(tests.at(test, DAY), house.periodDays);
                if (period > own || period < latest) continue;
                if (period > latest) {
                    latest = period;
                    sum = 0;
                    many = 0;
                }
                sum += rate;
                many++;
            }
            return many == 0 ? USUAL_RATE : sum / many;
        }

        long fatOfCan(int can) {
            return (long) house.cans.at(can, WEIGHT) * rateOfCan(can);
        }

        long fatOfWeek(int farm, int week) {
            Rows cans = house.cans;
            long sum = 0;
            for (int can = 0; can < cans.many; can++) {
                if (cans.at(can, FARM) == farm && cans.at(can, DAY) / WEEK_DAYS == week) sum += fatOfCan(can);
            }
            return sum;
        }

        int signsOfWater(int farm, int week) {
            int mean = meanBefore(farm, week);
            if (mean == NONE) return 0;
            int there = 0;
            int signs = 0;
            int firstDay = NONE;
            boolean unlikeDays = false;
            for (int test = 0; test < tests.many; test++) {
                int day = tests.at(test, DAY);
                int rate = rateLearned(test);
                if (rate == NONE || tests.at(test, FARM) != farm || day / WEEK_DAYS != week) continue;
                there++;
                if (mean - rate < WATERED_BY) continue;
                signs++;
                if (firstDay == NONE) firstDay = day;
                if (day != firstDay) unlikeDays = true;
            }
            return unlikeDays && 2 * signs >= there ? signs : 0;
        }

        private int meanBefore(int farm, int week) {
            int sum = 0;
            int many = 0;
            for (int test = 0; test < tests.many; test++) {
                int rate = rateLearned(test);
                if (rate == NONE || tests.at(test, FARM) != farm) continue;
                if (tests.at(test, DAY) / WEEK_DAYS >= week) continue;
                sum += rate;
                many++;
            }
            return many < EARLIER_TESTS ? NONE : sum / many;
        }
    }

    /** CHURNS and their BOXES. What tells of FAT asks the lab, which must have learned first. */
    private static final class Dairy {
        final House house;
        final Lab lab;

        Dairy(House house, Lab lab) {
            this.house = house;
            this.lab = lab;
        }

        int howManyCans(int churn) {
            int many = 0;
            for (int can = 0; can < house.cans.many; can++) {
                if (house.cans.at(can, CHURN) == churn) many++;
            }
            return many;
        }

        int lossOf(int churn) {
            int day = house.churns.at(churn, CHURN_DAY);
            int oldest = 0;
            for (int can = 0; can < house.cans.many; can++) {
                if (house.cans.at(can, CHURN) == churn) oldest = Math.max(oldest, day - house.cans.at(can, DAY));
            }
            return 5 + 2 * Math.abs(house.churns.at(churn, HEAT) - 55) + 10 * oldest;
        }

        /** Of one FARM's CANS, or of all where the farm is NONE. */
        long fatOf(int churn, int farm) {
            long sum = 0;
            for (int can = 0; can < house.cans.many; can++) {
                if (house.cans.at(can, CHURN) != churn) continue;
                if (farm == NONE || house.cans.at(can, FARM) == farm) sum += lab.fatOfCan(can);
            }
            return sum;
        }

        long butterOf(int churn) {
            return fatOf(churn, NONE) * (THOUSAND - lossOf(churn)) / THOUSAND;
        }

        int agrees(int churn) {
            int out = house.churns.at(churn, WEIGHED_OUT);
            if (out == NONE) return NONE;
            long butter = butterOf(churn);
            return asNumber(Math.abs(out - butter) <= 20 * butter / THOUSAND);
        }

        int howManyBoxes(int churn) {
            int many = 0;
            for (int box = 0; box < house.boxes.many; box++) {
                if (house.boxes.at(box, BOX_CHURN) == churn) many++;
            }
            return many;
        }

        long penceOf(int churn, int k) {
            Rows boxes = house.boxes;
            long sum = 0;
            for (int box = 0; box < boxes.many; box++) {
                int known = boxes.at(box, SOLD_KNOWN);
                if (boxes.at(box, BOX_CHURN) == churn && known != NONE && known <= k) sum += boxes.at(box, PENCE);
            }
            return sum;
        }

        int leanOfGraders() {
            int sum = 0;
            int many = 0;
            for (int box = 0; box < house.boxes.many; box++) {
                int first = house.boxes.at(box, GRADES);
                int second = house.boxes.at(box, GRADES + 1);
                if (first == NONE || second == NONE) continue;
                sum += first - second;
                many++;
            }
            return many == 0 ? 0 : sum / many;
        }

        int lotOf(int churn, int what) {
            int lean = leanOfGraders();
            int least = 0;
            int greatest = 0;
            int sum = 0;
            int many = 0;
            for (int box = 0; box < house.boxes.many; box++) {
                int first = house.boxes.at(box, GRADES);
                int second = house.boxes.at(box, GRADES + 1);
                boolean graded = first != NONE || second != NONE;
                if (house.boxes.at(box, BOX_CHURN) != churn || !graded) continue;
                int grade = first != NONE ? first : second + lean;
                least = many == 0 ? grade : Math.min(least, grade);
                greatest = many == 0 ? grade : Math.max(greatest, grade);
                sum += grade;
                many++;
            }
            if (what == 3) return many;
            if (many == 0) return NO_LOT;
            if (what == 2) return sum / many;
            return what == 0 ? least : greatest;
        }
    }

    /**
     * Reads a TEXT once from the left on: its FAULT, or what it tells of the names. What waits for its right side
     * stands on two stacks, so that no depth of a TEXT can pile up calls.
     */
    private static final class Reader {
        private static final int MOST_OPEN = 8, MOST_DIGITS = 6;
        private static final int SUCH = 1, LONG_NUMBER = 2, NINTH_OPEN = 3;
        private static final int COMPARES = 3;
        /** The sign - ahead of a UNIT, to tell it from the one between two. */
        private static final int NEGATE = 128;
        private static final int NAMES = 8;

        final int[] signs = new int[TEXT_LENGTH];
        int length;
        /** Of w f n o t m c r, told before read(). */
        final long[] names = new long[NAMES];
        final long[] values = new long[TEXT_LENGTH];
        int valuesWait;
        final int[] marks = new int[TEXT_LENGTH];
        /** Whether a waiting mark makes its right side needless. */
        final boolean[] needless = new boolean[TEXT_LENGTH];
        int marksWait;
        int openNow;
        /** How many marks around this place make it needless: a division by 0 there tells nothing. */
        int needlessNow;
        boolean unitWanted;
        int faultFound;
        /** What the last read() told, if it found no FAULT. */
        boolean none;
        long told;

        void load(Rows rows, int row, int column) {
            length = Math.max(0, Math.min(signs.length, rows.at(row, column)));
            for (int i = 0; i < length && i < signs.length; i++) signs[i] = rows.at(row, column + 1 + i);
        }

        void tellName(int name, long v) {
            if (name >= 0 && name < names.length) names[name] = v;
        }

        /** FAULT, or NONE. */
        int read() {
            valuesWait = 0;
            marksWait = 0;
            openNow = 0;
            needlessNow = 0;
            unitWanted = true;
            faultFound = NONE;
            none = false;
            told = 0;
            int next = 0;
            for (int i = 0; i < length && faultFound == NONE; i++) {
                int sign = signAt(i);
                if (i < next || sign == ' ') continue;
                if (unitWanted && isDigit(sign)) next = readNumber(i);
                else if (unitWanted) readUnit(i, sign);
                else if (sign == '?') readQuestion();
                else if (sign == ':') readElse(i);
                else if (sign == ')') readClose(i);
                else readJoin(i, sign);
            }
            if (faultFound == NONE) readEnd();
            return faultFound;
        }

        private int signAt(int i) {
            return i < 0 || i >= length || i >= signs.length ? 0 : signs[i];
        }

        private static boolean isDigit(int sign) {
            return sign >= '0' && sign <= '9';
        }

        private void stop(int place, int why) {
            faultFound = 10 * place + why;
        }

        private void readEnd() {
            if (!unitWanted) endChoices();
            if (unitWanted || marksWait > 0) stop(length, SUCH);
            else told = popValue();
        }

        /** The place behind its last digit. */
        private int readNumber(int first) {
            long v = 0;
            int end = first;
            for (int i = first; i < length && isDigit(signAt(i)); i++) {
                v = 10 * v + signAt(i) - '0';
                end = i + 1;
            }
            if (end - first > MOST_DIGITS) stop(first, LONG_NUMBER);
            else endUnit(v);
            return end;
        }

        private void readUnit(int place, int sign) {
            if (sign == '!') {
                pushMark('!', false);
            } else if (sign == '-') {
                pushMark(NEGATE, false);
            } else if (sign == '(') {
                if (openNow >= MOST_OPEN) stop(place, NINTH_OPEN);
                openNow++;
                pushMark('(', false);
            } else {
                int name = nameOf(sign);
                if (name < 0 || name >= names.length) stop(place, SUCH);
                else endUnit(names[name]);
            }
        }

        private static int nameOf(int sign) {
            switch (sign) {
                case 'w': return 0;
                case 'f': return 1;
                case 'n': return 2;
                case 'o': return 3;
                case 't': return 4;
                case 'm': return 5;
                case 'c': return 6;
                case 'r': return 7;
                default: return NONE;
            }
        }

        /** ! and - bind closer than all else, so they are done as soon as their UNIT stands. */
        private void endUnit(long unit) {
            long v = unit;
            for (int i = marksWait; i > 0 && (topMark() == '!' || topMark() == NEGATE); i--) {
                v = topMark() == NEGATE ? -v : asNumber(v == 0);
                popMark();
            }
            pushValue(v);
            unitWanted = false;
        }

        private static int rankOf(int mark) {
            switch (mark) {
                case '|': return 1;
                case '&': return 2;
                case '<': case '>': case '=': return COMPARES;
                case '+': case '-': return 4;
                case '*': case '/': return 5;
                default: return 0;
            }
        }

        private void readJoin(int place, int sign) {
            int rank = rankOf(sign);
            // SUMS are compared once only: a comparison is not done for the next one, but forbids it.
            if (rank > 0) settle(rank == COMPARES ? rank + 1 : rank);
            if (rank == 0 || rank == COMPARES && rankOf(topMark()) == COMPARES) {
                stop(place, SUCH);
                return;
            }
            boolean decided = sign == '|' && topValue() != 0 || sign == '&' && topValue() == 0;
            pushMark(sign, decided);
            unitWanted = true;
        }

        private void readQuestion() {
            settle(1);
            pushMark('?', popValue() == 0);
            unitWanted = true;
        }

        private void readElse(int place) {
            endChoices();
            if (topMark() != '?') {
                stop(place, SUCH);
                return;
            }
            boolean elseCounts = popMark();
            if (elseCounts) popValue();
            pushMark(':', !elseCounts);
            unitWanted = true;
        }

        private void readClose(int place) {
            endChoices();
            if (topMark() != '(') {
                stop(place, SUCH);
                return;
            }
            popMark();
            openNow--;
            endUnit(popValue());
        }

        /** Does the waiting operations that bind as close as a rank, or closer. */
        private void settle(int rank) {
            for (int i = marksWait; i > 0 && rankOf(topMark()) >= rank; i--) {
                int mark = topMark();
                boolean decided = popMark();
                long right = popValue();
                long left = popValue();
                pushValue(decided ? asNumber(mark == '|') : made(mark, left, right));
            }
        }

        /** A VALUE ends here: of each choice whose else stands the one side stays. */
        private void endChoices() {
            settle(1);
            for (int i = marksWait; i > 0 && topMark() == ':'; i--) {
                if (popMark()) popValue();
            }
        }

        private long made(int mark, long left, long right) {
            switch (mark) {
                case '|': case '&': return right != 0 ? 1 : 0;
                case '<': return left < right ? 1 : 0;
                case '>': return left > right ? 1 : 0;
                case '=': return left == right ? 1 : 0;
                case '+': return left + right;
                case '-': return left - right;
                case '*': return left * right;
                default:
                    if (right == 0 && needlessNow == 0) none = true;
                    return right == 0 ? 0 : left / right;
            }
        }

        private int topMark() {
            return marksWait <= 0 || marksWait > marks.length ? 0 : marks[marksWait - 1];
        }

        private void pushMark(int mark, boolean rightIsNeedless) {
            if (marksWait >= marks.length || marksWait >= needless.length) return;
            marks[marksWait] = mark;
            needless[marksWait] = rightIsNeedless;
            marksWait++;
            if (rightIsNeedless) needlessNow++;
        }

        /** Whether its right side was needless. */
        private boolean popMark() {
            if (marksWait <= 0 || marksWait > needless.length) return false;
            marksWait--;
            if (needless[marksWait]) needlessNow--;
            return needless[marksWait];
        }

        private long topValue() {
            return valuesWait <= 0 || valuesWait > values.length ? 0 : values[valuesWait - 1];
        }

        private void pushValue(long v) {
            if (valuesWait >= values.length) return;
            values[valuesWait] = v;
            valuesWait++;
        }

        private long popValue() {
            if (valuesWait <= 0 || valuesWait > values.length) return 0;
            valuesWait--;
            return values[valuesWait];
        }
    }

    /** MOTIONS, and which of them is in force. */
    private static final class Ballot {
        final House house;
        final Rows motions;

        Ballot(House house) {
            this.house = house;
            this.motions = house.motions;
        }

        int propose(int text, int from, int byCows) {
            int motion = motions.come(from, byCows, 0);
            if (motion == FULL) return FULL;
            for (int i = 0; i <= TEXT_LENGTH; i++) {
                motions.put(motion, MOTION_TEXT + i, house.texts.at(text, LENGTH + i));
            }
            for (int farm = 0; farm < FARMS; farm++) motions.put(motion, VOTES + farm, 0);
            return motion;
        }

        int tellOf(int motion, int what) {
            switch (what) {
                case 0: return votesOf(motion, 1);
                case 1: return votesOf(motion, -1);
                case 2: return votesOf(motion, 1) + votesOf(motion, -1) + votesOf(motion, 0);
                case 3: return asNumber(isPassed(motion));
                default: return motions.at(motion, VOID);
            }
        }

        private int votesOf(int motion, int how) {
            boolean byCows = motions.at(motion, BY_COWS) == 1;
            int sum = 0;
            for (int farm = 0; farm < house.farms.many; farm++) {
                if (house.farms.at(farm, MEMBER) != 1 || motions.at(motion, VOTES + farm) != how) continue;
                sum += byCows ? house.farms.at(farm, COWS) : 1;
            }
            return sum;
        }

        private boolean isPassed(int motion) {
            int yes = votesOf(motion, 1);
            int no = votesOf(motion, -1);
            int all = yes + no + votesOf(motion, 0);
            return yes > no && 2 * (yes + no) >= all;
        }

        int inForce(int day) {
            int best = NONE;
            for (int motion = 0; motion < motions.many; motion++) {
                int from = motions.at(motion, MOTION_FROM);
                if (from > day || motions.at(motion, VOID) == 1 || !isPassed(motion)) continue;
                if (best == NONE || from >= motions.at(best, MOTION_FROM)) best = motion;
            }
            return best;
        }
    }

    /** THE PAY of a WEEK, and what the names of a TEXT mean there. */
    private static final class Payday {
        private static final long MOST_SHARE = 1000000000L;
        final House house;
        final Lab lab;
        final Reader reader;
        final Ballot ballot;
        final int[] weights = new int[FARMS];
        final long[] fats = new long[FARMS];
        final int[] cans = new int[FARMS];
        final int[] olderDays = new int[FARMS];
        final int[] tests = new int[FARMS];
        final long[] shares = new long[FARMS];

        Payday(House house, Lab lab, Reader reader, Ballot ballot) {
            this.house = house;
            this.lab = lab;
            this.reader = reader;
            this.ballot = ballot;
        }

        /** Of all FARMS at once: the RANK of one asks for the weights of all. */
        void gather(int week, int k) {
            lab.learn(k);
            Arrays.fill(weights, 0);
            Arrays.fill(fats, 0);
            Arrays.fill(cans, 0);
            Arrays.fill(olderDays, 0);
            Arrays.fill(tests, 0);
            for (int can = 0; can < house.cans.many; can++) gatherCan(can, week);
            for (int test = 0; test < house.tests.many; test++) {
                int farm = house.tests.at(test, FARM);
                if (farm < 0 || farm >= FARMS || lab.rateLearned(test) == NONE) continue;
                if (house.tests.at(test, DAY) / WEEK_DAYS == week) tests[farm]++;
            }
        }

        private void gatherCan(int can, int week) {
            int farm = house.cans.at(can, FARM);
            int churn = house.cans.at(can, CHURN);
            if (farm < 0 || farm >= FARMS || churn == NONE) return;
            int day = house.churns.at(churn, CHURN_DAY);
            if (day / WEEK_DAYS != week) return;
            weights[farm] += house.cans.at(can, WEIGHT);
            fats[farm] += lab.fatOfCan(can);
            cans[farm]++;
            olderDays[farm] += day - house.cans.at(can, DAY);
        }

        void nameFor(int farm) {
            if (farm < 0 || farm >= FARMS) return;
            reader.tellName(0, weights[farm]);
            reader.tellName(1, fats[farm] / 100);
            reader.tellName(2, cans[farm]);
            reader.tellName(3, olderDays[farm]);
            reader.tellName(4, tests[farm]);
            reader.tellName(5, house.farms.at(farm, MEMBER));
            reader.tellName(6, house.farms.at(farm, COWS));
            reader.tellName(7, rankOfWeight(weights[farm]));
        }

        private int rankOfWeight(int weight) {
            int rank = 0;
            for (int farm = 0; farm < house.farms.many && farm < FARMS; farm++) {
                if (weights[farm] > weight) rank++;
            }
            return rank;
        }

        /** Of the WEEK that was gathered. */
        void findShares(int week) {
            int motion = ballot.inForce(WEEK_DAYS * week);
            if (motion != NONE) reader.load(house.motions, motion, MOTION_TEXT);
            for (int farm = 0; farm < FARMS; farm++) {
                long told = fats[farm] / 100;
                if (motion != NONE) {
                    nameFor(farm);
                    reader.read();
                    told = reader.none ? 0 : reader.told;
                }
                shares[farm] = cans[farm] == 0 ? 0 : Math.max(0, Math.min(MOST_SHARE, told));
            }
        }

        long penceOfWeek(int week, int k) {
            Rows boxes = house.boxes;
            long sum = 0;
            for (int box = 0; box < boxes.many; box++) {
                int known = boxes.at(box, SOLD_KNOWN);
                int day = house.churns.at(boxes.at(box, BOX_CHURN), CHURN_DAY);
                if (known != NONE && known <= k && day / WEEK_DAYS == week) sum += boxes.at(box, PENCE);
            }
            return sum;
        }

        /** Of what is paid, by the shares found before. */
        long partOf(int farm, long pence) {
            if (farm < 0 || farm >= FARMS) return 0;
            long all = 0;
            for (int i = 0; i < FARMS; i++) all += shares[i];
            if (all == 0) return 0;
            long cutOff = pence * shares[farm] % all;
            long left = pence;
            int served = 0;
            for (int i = 0; i < FARMS; i++) {
                long product = pence * shares[i];
                left -= product / all;
                long other = product % all;
                if (other > cutOff || other == cutOff && i < farm) served++;
            }
            return pence * shares[farm] / all + asNumber(served < left);
        }
    }

    /** THE ROUTE of a set of FARMS. */
    private static final class Cart {
        static final int STOPS = 8;
        private static final int HOME = 100, MINUTES_A_MILE = 3, MINUTES_A_STOP = 5, MORE_THAN_ANY = 1000000;
        final House house;
        final int[] stops = new int[STOPS];
        int many;
        /** Miles between stops, and from each to the creamery. */
        final int[] miles = new int[STOPS * STOPS];
        final int[] home = new int[STOPS];
        /** By a set of stops that are left and the stop where the cart is: the fewest miles by all of them home. */
        final int[] rest = new int[STOPS << STOPS];
        final int[] order = new int[STOPS];
        int total;

        Cart(House house) {
            this.house = house;
        }

        void plan(int set) {
            takeStops(set);
            findRests();
            int first = firstStop();
            if (many > 0 && first == NONE) {
                total = NONE;
                many = 0;
                return;
            }
            total = many == 0 ? 0 : homeOf(first) + restOf(allBut(first), first);
            findOrder(first);
        }

        int stopAt(int i) {
            return i < 0 || i >= many || i >= STOPS ? NONE : order[i];
        }

        private void takeStops(int set) {
            many = 0;
            for (int farm = 0; farm < house.farms.many && many < STOPS; farm++) {
                if (!holds(set, farm)) continue;
                stops[many] = farm;
                home[many] = Math.abs(house.farms.at(farm, X) - HOME) + Math.abs(house.farms.at(farm, Y) - HOME);
                many++;
            }
            for (int one = 0; one < many && one < STOPS; one++) {
                for (int other = 0; other < many && other < STOPS; other++) {
                    miles[STOPS * one + other] = milesBetween(house.farms, stops[one], house.farms, stops[other]);
                }
            }
        }

        private int allBut(int stop) {
            return (1 << many) - 1 & ~(1 << stop);
        }

        private int homeOf(int stop) {
            return stop < 0 || stop >= STOPS ? 0 : home[stop];
        }

        private int restOf(int left, int stop) {
            int place = STOPS * left + stop;
            return place < 0 || place >= rest.length ? 0 : rest[place];
        }

        /** Smaller sets are found first, as larger ones are made of them. */
        private void findRests() {
            for (int left = 0; left < 1 << many; left++) {
                for (int stop = 0; stop < many; stop++) {
                    int place = STOPS * left + stop;
                    if (place < rest.length && !holds(left, stop)) rest[place] = fewestFrom(left, stop);
                }
            }
        }

        private int fewestFrom(int left, int stop) {
            if (left == 0) return homeOf(stop);
            int fewest = MORE_THAN_ANY;
            for (int next = 0; next < many; next++) {
                if (holds(left, next)) fewest = Math.min(fewest, milesBy(left, stop, next));
            }
            return fewest;
        }

        private int milesBy(int left, int stop, int next) {
            int place = STOPS * stop + next;
            int there = place < 0 || place >= miles.length ? 0 : miles[place];
            return there + restOf(left & ~(1 << next), next);
        }

        /** The CANS of the first FARM are the longest on the cart, so they tell whether all are back before souring. */
        private int firstStop() {
            int best = NONE;
            int fewest = 0;
            for (int stop = 0; stop < many; stop++) {
                int back = restOf(allBut(stop), stop);
                if (MINUTES_A_MILE * back + MINUTES_A_STOP * (many - 1) > house.sourMinutes) continue;
                int whole = homeOf(stop) + back;
                if (best != NONE && whole >= fewest) continue;
                best = stop;
                fewest = whole;
            }
            return best;
        }

        private void findOrder(int first) {
            int stop = first;
            int left = allBut(Math.max(0, first));
            for (int i = 0; i < many && i < STOPS; i++) {
                order[i] = stop < 0 || stop >= STOPS ? NONE : stops[stop];
                int next = nextStop(left, stop);
                left = left & ~(1 << Math.max(0, next));
                stop = next;
            }
        }

        private int nextStop(int left, int stop) {
            for (int next = 0; next < many; next++) {
                if (holds(left, next) && milesBy(left, stop, next) == restOf(left, stop)) return next;
            }
            return NONE;
        }
    }

    /** CREAMS put TOGETHER in heaps. Sets of CREAMS are bits. */
    private static final class Blend {
        static final int CREAMS = 10;
        private static final int SETS = 1 << CREAMS, HOTTER_THAN_ANY = 1000;
        /** A row of heaps is one number, four bits a CREAM, the least CREAM highest: the less number, the first row. */
        private static final int DIGIT = 4, DIGIT_MASK = 15;
        final Rows creams;
        /** Of each set: what it loses as one heap, and as heaps that lose least; how many these are, and their row. */
        final long[] asHeap = new long[SETS];
        final long[] least = new long[SETS];
        final int[] heaps = new int[SETS];
        final long[] rows = new long[SETS];
        /** Of each set the row with a 1 at each of its CREAMS. */
        final long[] ones = new long[SETS];

        Blend(Rows creams) {
            this.creams = creams;
        }

        private int allCreams() {
            return (1 << Math.min(CREAMS, creams.many)) - 1;
        }

        void plan(int k) {
            int all = allCreams();
            for (int set = 1; set <= all && set < SETS; set++) {
                ones[set] = ones[set & set - 1] + (1L << shiftOf(Integer.numberOfTrailingZeros(set)));
                if (Integer.bitCount(set) <= k) asHeap[set] = lossAsHeap(set);
            }
            for (int set = 1; set <= all && set < SETS; set++) planSet(set, k);
        }

        private static int shiftOf(int cream) {
            return DIGIT * (CREAMS - 1 - cream);
        }

        private long lossAsHeap(int set) {
            long fat = 0;
            int heat = 0;
            int many = 0;
            int oldest = 0;
            int coldest = HOTTER_THAN_ANY;
            int hottest = 0;
            for (int cream = 0; cream < creams.many; cream++) {
                if (!holds(set, cream)) continue;
                int own = creams.at(cream, CREAM_HEAT);
                fat += creams.at(cream, CREAM_FAT);
                heat += own;
                many++;
                oldest = Math.max(oldest, creams.at(cream, CREAM_AGE));
                coldest = Math.min(coldest, own);
                hottest = Math.max(hottest, own);
            }
            int mean = (int) cut(heat, many);
            int loss = 5 + 2 * Math.abs(mean - 55) + 10 * oldest + hottest - coldest;
            return Math.min(THOUSAND, loss) * fat / THOUSAND;
        }

        /** The least CREAM's heap is any part of the set that has it; what is left was planned before, being less. */
        private void planSet(int set, int k) {
            if (set < 1 || set >= SETS) return;
            int lowest = set & -set;
            int others = set ^ lowest;
            int part = others;
            heaps[set] = 0;
            for (int step = 0; step < SETS; step++) {
                if (Integer.bitCount(part) < k) tryHeap(set, part | lowest);
                if (part == 0) break;
                part = part - 1 & others;
            }
        }

        private void tryHeap(int set, int heap) {
            int left = set ^ heap;
            if (set < 1 || set >= SETS || heap < 1 || heap >= SETS || left < 0 || left >= SETS) return;
            long loss = asHeap[heap] + least[left];
            int many = 1 + heaps[left];
            long row = Integer.numberOfTrailingZeros(heap) * ones[heap] + rows[left];
            if (heaps[set] != 0 && !isBetter(set, loss, many, row)) return;
            least[set] = loss;
            heaps[set] = many;
            rows[set] = row;
        }

        private boolean isBetter(int set, long loss, int many, long row) {
            if (set < 0 || set >= SETS) return false;
            if (loss != least[set]) return loss < least[set];
            if (many != heaps[set]) return many < heaps[set];
            return row < rows[set];
        }

        long lost() {
            int set = allCreams();
            return set <= 0 || set >= SETS ? 0 : least[set];
        }

        int leastOfHeap(int cream) {
            int set = allCreams();
            if (set < 0 || set >= SETS) return NONE;
            return (int) (rows[set] >> shiftOf(cream)) & DIGIT_MASK;
        }
    }

    /** SITES, and which of them to open. */
    private static final class Yard {
        final House house;
        int bestSet;
        long bestCost;

        Yard(House house) {
            this.house = house;
        }

        void plan() {
            bestSet = 0;
            bestCost = 0;
            for (int set = 1; set < 1 << house.sites.many; set++) {
                long cost = costOf(set);
                if (bestSet != 0 && cost >= bestCost) continue;
                bestSet = set;
                bestCost = cost;
            }
        }

        private long costOf(int set) {
            long sum = 0;
            for (int site = 0; site < house.sites.many; site++) {
                if (holds(set, site)) sum += house.sites.at(site, COST);
            }
            for (int farm = 0; farm < house.farms.many; farm++) {
                int miles = milesBetween(house.farms, farm, house.sites, nearestOf(farm, set));
                sum += (long) house.freightRate * house.farms.at(farm, COWS) * miles;
            }
            return sum;
        }

        int nearestOf(int farm, int set) {
            int best = NONE;
            int fewest = 0;
            for (int site = 0; site < house.sites.many; site++) {
                if (!holds(set, site)) continue;
                int miles = milesBetween(house.farms, farm, house.sites, site);
                if (best != NONE && miles >= fewest) continue;
                best = site;
                fewest = miles;
            }
            return best;
        }
    }

    /** LOANS, week by week. */
    private static final class Bank {
        static final int WEEKS = 1000;
        private static final long MOST_OWED = 1000000000000L;

        static long behindAWeek(Rows loans, int loan, long owed) {
            long grown = owed + (owed * loans.at(loan, LOAN_RATE) + THOUSAND - 1) / THOUSAND;
            long due = Math.min(MOST_OWED, grown);
            return due - Math.min(due, loans.at(loan, PART));
        }
    }
}
