import java.lang.reflect.Method;
import java.util.ArrayList;
import java.util.Arrays;
import java.util.HashMap;
import java.util.List;
import java.util.Map;

/**
 * "Refused, changing nothing, the first of: BAD -2 a number is not as told; NO -3 as told; FULL -4." For each promise
 * each number is put too small and too large, and at its two ends; behind a refused call all answers are as before.
 */
public final class RefusedTest {
    private static final int BAD = CountyCream.BAD, NO = CountyCream.NO, FULL = CountyCream.FULL, LAST = CountyCream.LAST;
    private static final long TELLS_BAD = -2000000000000000000L;
    private static final Map<String, Method> CALLS = new HashMap<>();

    /**
     * Promise, call, and each number with its ends in the county below: good(least..most). A # stands for a truth.
     * The numbers that are not tried stay good, so that it is the one alone that is refused.
     */
    private static final String[] ENDS = {
        "2 farm 5(0..200) 5(0..200) 5(0..60) #",
        "3 change 1(0..2) 5(0..60) #",
        "4 can 1(0..2) 5(0..195) 5(1..1000)",
        "5 test 1(0..2) 20(0..30) 2(0..3) 400(0..1000) 30(20..195)",
        "6 right 0(0..2) 500(0..1000) 9(2..195)",
        "7 bias 1(0..3) 5(-50..50)",
        "8 period 5(1..28)",
        "9 rate 1(0..2) 100(0..195)",
        "10 canRate 1(0..3) 100(0..195)",
        "11 fat 1(0..2) 1(0..27) 100(0..195)",
        "12 churn 5(0..195) 50(40..80)",
        "13 fill 1(0..1) 3(0..3)",
        "14 about 0(0..1) 100(0..195) 3(0..6)",
        "15 out 1(0..1) 5(0..300000000)",
        "16 box 1(0..1)",
        "17 sell 1(0..2) 5(0..1000000) 20(6..195)",
        "18 grade 1(0..2) 1(0..1) 50(0..100)",
        "20 lot 0(0..1) 2(0..3)",
        "21 lead 0(0..1) 1(0..2) 100(0..195)",
        "22 write 2(0..5) 50(0..127)",
        "23 erase 0(0..5)",
        "24 fault 1(0..5)",
        "25 tells 0(0..5) 1(0..2) 1(0..27) 100(0..195)",
        "26 motion 0(0..5) 5(0..195) #",
        "27 vote 0(0..1) 1(0..2) 0(-1..1)",
        "28 tear 0(0..1) #",
        "29 motionAt 0(0..1) 2(0..4)",
        "30 force 5(0..195)",
        "31 money 0(0..27) 100(0..195)",
        "32 pay 0(0..27) 1(0..2) 100(0..195)",
        "33 share 0(0..27) 1(0..2) 100(0..195)",
        "34 watered 1(0..2) 1(0..27) 100(0..195)",
        "35 sour 5(1..2000)",
        "36 route 3(0..7)",
        "37 routeAt 3(0..7) 1(0..2147483647)",
        "38 cream 5(1..1000000) 50(40..80) 5(0..9)",
        "40 together 2(1..5)",
        "41 heap 2(1..5) 1(0..2)",
        "42 gives 5(0..51) 5(0..500)",
        "43 calved 1(0..2) 5(-51..27) 5(1..60)",
        "44 foretold 1(0..2) 5(0..27)",
        "45 site 5(0..200) 5(0..200) 5(0..1000000)",
        "46 freight 5(0..100)",
        "47 open 1(0..1)",
        "48 nearest 1(0..2) 2(1..3)",
        "49 loan 5(1..1000000) 5(0..100) 5(1..100000)",
        "50 owed 1(0..1) 5(0..1000)",
        "51 ends 1(0..1)",
        "52 image 1(0..1)",
        "53 from 0(0..1)",
        "54 count 5(0..9)",
    };

    public static void main(String[] args) throws Exception {
        for (Method m : CountyCream.class.getDeclaredMethods()) CALLS.put(m.getName(), m);
        for (String line : ENDS) tryEnds(line);
        lastOnlyWhereTold();
        nothingThere();
        refusedByNo();
        refusedByFull();
        theFirstOfThem();
        Due.end();
    }

    /** Three FARMS (the last no MEMBER), one of each thing that is done and one that is not. */
    private static CountyCream county() {
        CountyCream x = new CountyCream();
        x.farm(100, 110, 10, true);
        x.farm(90, 100, 20, true);
        x.farm(120, 100, 5, false);
        x.test(0, 2, 0, 400, 2);
        x.test(1, 4, 1, 300, 5);
        x.test(1, 5, 1, LAST, 5);
        x.right(1, 360, 20);
        x.bias(1, 10);
        x.can(0, 3, 100);
        x.can(1, 3, 100);
        x.can(1, 8, 50);
        x.can(2, 4, 70);
        x.churn(6, 57);
        x.churn(9, 50);
        x.fill(0, 0);
        x.fill(0, 1);
        x.out(0, 72000);
        x.box(0);
        x.box(0);
        x.box(1);
        x.sell(0, 1001, 10);
        x.grade(0, 0, 90);
        x.grade(0, 1, 84);
        x.write(0, 'w');
        x.write(1, 'w');
        x.write(1, '+');
        x.motion(0, 5, false);
        x.motion(0, 6, true);
        x.vote(0, 0, 1);
        x.vote(1, 1, 1);
        x.tear(1, true);
        x.cream(1000, 55, 0);
        x.cream(1000, 65, 2);
        x.cream(2000, 55, 0);
        x.gives(1, 10);
        x.calved(0, 3, 5);
        x.calved(1, 2, 4);
        x.site(100, 120, 50);
        x.site(120, 100, 900);
        x.loan(1000, 10, 110);
        x.loan(500, 0, 1);
        x.image(0);
        return x;
    }

    /** All that can be asked without telling anything; what only answers by telling is told as it is. */
    private static long[] picture(CountyCream x) {
        List<Long> told = new ArrayList<>();
        told.add(x.digest());
        for (int what = 0; what <= 9; what++) told.add((long) x.count(what));
        for (int farm = 0; farm < 3; farm++) {
            told.add(x.fat(farm, 0, 195));
            told.add(x.tells(0, farm, 0, 195));
            told.add(x.share(0, farm, 195));
            told.add(x.pay(0, farm, 195));
            for (int week = 3; week < 6; week++) told.add((long) x.foretold(farm, week));
            told.add((long) x.nearest(farm, Math.max(1, (1 << x.count(8)) - 1)));
            told.add((long) x.route(1 << farm));
        }
        for (int churn = 0; churn < 2; churn++) {
            for (int what = 0; what <= 6; what++) told.add(x.about(churn, 195, what));
        }
        for (int test = 0; test < 3; test++) told.add((long) x.rate(test, 195));
        for (int day : new int[] {0, 4, 5, 6, 195}) told.add((long) x.force(day));
        for (int k = 1; k <= 5; k++) told.add(x.together(k));
        for (int loan = 0; loan < 2; loan++) told.add(x.owed(loan, 3));
        for (int text = 0; text < 6; text++) told.add((long) x.fault(text));
        told.add(x.open(0));
        told.add(x.open(1));
        told.add((long) x.route(7));
        told.add(x.money(0, 195));
        told.add((long) x.lean());
        return told.stream().mapToLong(Long::longValue).toArray();
    }

    /** What picture() can not ask: it is told anew what it is, which answers what it was. */
    private static long[] settings(CountyCream x) {
        List<Long> told = new ArrayList<>();
        told.add((long) x.sour(300));
        told.add((long) x.freight(1));
        told.add((long) x.period(7));
        for (int hand = 0; hand < 4; hand++) told.add((long) x.bias(hand, 0));
        for (int week = 0; week < 52; week++) told.add((long) x.gives(week, 0));
        x.tear(1, false);
        for (int motion = 0; motion < 2; motion++) {
            for (int farm = 0; farm < 2; farm++) told.add((long) x.vote(motion, farm, 0));
        }
        told.add((long) x.from(1));
        told.add((long) x.from(0));
        told.add(x.digest());
        return told.stream().mapToLong(Long::longValue).toArray();
    }

    private static long ask(CountyCream x, String call, long[] numbers) throws Exception {
        Method m = CALLS.get(call);
        Object[] put = new Object[numbers.length];
        for (int i = 0; i < put.length; i++) {
            put[i] = m.getParameterTypes()[i] == boolean.class ? (Object) (numbers[i] != 0) : (Object) (int) numbers[i];
        }
        return ((Number) m.invoke(x, put)).longValue();
    }

    private static long badOf(String call) {
        switch (call) {
            case "bias": case "lot": return -1000;
            case "vote": return -10;
            case "tells": return TELLS_BAD;
            default: return BAD;
        }
    }

    private static void refused(String what, CountyCream x, CountyCream like, String call, long want, long... numbers) throws Exception {
        String told = what + " " + call + Arrays.toString(numbers);
        Due.due(told, ask(x, call, numbers), want);
        Due.due(told + " changes nothing", Arrays.equals(picture(x), picture(like)));
        Due.due(told + " changes no setting", Arrays.equals(settings(x), settings(like)));
    }

    private static void tryEnds(String line) throws Exception {
        String[] parts = line.split(" ");
        String call = parts[1];
        long[] good = new long[parts.length - 2];
        long[][] ends = new long[good.length][];
        for (int i = 0; i < good.length; i++) {
            String[] n = parts[i + 2].equals("#") ? new String[] {"1"} : parts[i + 2].split("\\(|\\.\\.|\\)");
            good[i] = Long.parseLong(n[0]);
            ends[i] = n.length < 3 ? null : new long[] {Long.parseLong(n[1]), Long.parseLong(n[2])};
        }
        Due.due(parts[0] + " " + call + " is good", ask(county(), call, good) != badOf(call));
        for (int i = 0; i < good.length; i++) {
            if (ends[i] == null) continue;
            for (long v : new long[] {Integer.MIN_VALUE, ends[i][0] - 1, ends[i][1] + 1, Integer.MAX_VALUE}) {
                if (v >= ends[i][0] && v <= ends[i][1] || v > Integer.MAX_VALUE) continue;
                long[] wrong = good.clone();
                wrong[i] = v;
                refused(parts[0] + " BAD", county(), county(), call, badOf(call), wrong);
            }
            for (long v : ends[i]) {
                long[] right = good.clone();
                right[i] = v;
                String told = parts[0] + " the end " + call + Arrays.toString(right);
                Due.due(told, ask(county(), call, right) != badOf(call));
            }
        }
    }

    /** "a number (0 .. 1000) or LAST"; "BAD: v LAST, too". */
    private static void lastOnlyWhereTold() throws Exception {
        Due.due("5 LAST", county().test(1, 20, 2, LAST, 30), 3);
        refused("5 BAD", county(), county(), "test", BAD, 1, 20, 2, LAST - 1, 30);
        refused("5 BAD", county(), county(), "test", BAD, 1, 20, 2, LAST + 1, 30);
        refused("6 BAD", county(), county(), "right", BAD, 0, LAST, 9);
        refused("22 BAD", county(), county(), "write", BAD, 0, LAST);
        refused("13 BAD", county(), county(), "fill", BAD, LAST, 3);
    }

    /** In a new object no number names a thing; what goes by a set, or by all, answers of none. */
    private static void nothingThere() throws Exception {
        String[] calls = {
            "3 change 0 5 1", "4 can 0 5 5", "5 test 0 5 0 5 5", "6 right 0 5 5", "9 rate 0 5", "10 canRate 0 5", "11 fat 0 0 5",
            "13 fill 0 0", "14 about 0 5 0", "15 out 0 5", "16 box 0", "17 sell 0 5 5", "18 grade 0 0 5", "20 lot 0 0", "20 lot 0 3",
            "21 lead 0 0 5", "25 tells 0 0 0 5", "27 vote 0 0 1", "28 tear 0 1", "28 tear 0 0", "29 motionAt 0 0", "32 pay 0 0 5",
            "33 share 0 0 5", "34 watered 0 0 5", "36 route 1", "37 routeAt 1 0", "41 heap 1 0", "43 calved 0 0 5", "44 foretold 0 0",
            "48 nearest 0 1", "50 owed 0 0", "51 ends 0",
        };
        for (String line : calls) {
            String[] parts = line.split(" ");
            long[] numbers = new long[parts.length - 2];
            for (int i = 0; i < numbers.length; i++) numbers[i] = Long.parseLong(parts[i + 2]);
            CountyCream x = new CountyCream();
            Due.due(line + " of nothing", ask(x, parts[1], numbers), badOf(parts[1]));
            Due.due(line + " changes nothing", x.digest(), new CountyCream().digest());
        }
        CountyCream x = new CountyCream();
        Due.due("19 of nothing", x.lean(), 0);
        Due.due("23 of nothing", x.erase(5), 0);
        Due.due("24 of nothing", x.fault(5), 1);
        Due.due("26 of nothing", x.motion(5, 0, true), NO);
        Due.due("30 of nothing", x.force(195), CountyCream.NONE);
        Due.due("31 of nothing", x.money(27, 195), 0);
        Due.due("36 of nothing", x.route(0), 0);
        Due.due("37 of nothing", x.routeAt(0, 0), CountyCream.NONE);
        Due.due("39 of nothing", x.drain(), 0);
        for (int k = 1; k <= 5; k++) Due.due("40 of nothing", x.together(k), 0);
        Due.due("47 of nothing", x.open(0), NO);
        Due.due("53 of nothing", x.from(1), NO);
        // A thing more than there are is none either.
        CountyCream y = county();
        Due.due("48 a site beyond", y.nearest(0, 4), BAD);
        Due.due("36 a farm beyond", y.route(8), BAD);
        Due.due("37 a farm beyond", y.routeAt(15, 0), BAD);
    }

    private static void refusedByNo() throws Exception {
        refused("6 NO", county(), county(), "right", NO, 1, 370, 20);
        refused("13 NO, in one", county(), county(), "fill", NO, 0, 0);
        refused("13 NO, in another", county(), county(), "fill", NO, 1, 1);
        refused("13 NO, a later day", county(), county(), "fill", NO, 0, 2);
        refused("15 NO", county(), county(), "out", NO, 0, 72001);
        refused("17 NO", county(), county(), "sell", NO, 0, 7, 11);
        refused("26 NO", county(), county(), "motion", NO, 1, 5, 0);
        refused("26 NO, empty", county(), county(), "motion", NO, 2, 5, 0);
        refused("27 NO, no member", county(), county(), "vote", -20, 0, 2, 1);
        refused("27 NO, void", county(), county(), "vote", -20, 1, 0, 1);
        refused("28 NO, is void", county(), county(), "tear", NO, 1, 1);
        refused("28 NO, is not void", county(), county(), "tear", NO, 0, 0);
        refused("20 NO", county(), county(), "lot", -2000, 1, 0);
        refused("25 NO", county(), county(), "tells", -3000000000000000000L, 1, 0, 0, 9);
        refused("53 NO", county(), county(), "from", NO, 1);
        CountyCream x = new CountyCream();
        for (int i = 0; i < 9; i++) x.farm(100, 100, 1, true);
        long before = x.digest();
        Due.due("36 NO", x.route(511), NO);
        Due.due("37 NO", x.routeAt(511, 0), NO);
        Due.due("36 NO changes nothing", x.digest(), before);
    }

    private static void full(String what, CountyCream x, String call, int countOf, int most, long... numbers) throws Exception {
        for (int i = x.count(countOf); i < most; i++) Due.due(what + " not full", ask(x, call, numbers) >= 0);
        long digest = x.digest();
        Due.due(what + " FULL", ask(x, call, numbers), FULL);
        Due.due(what + " FULL again", ask(x, call, numbers), FULL);
        Due.due(what + " count", x.count(countOf), most);
        Due.due(what + " changes nothing", x.digest(), digest);
    }

    private static void refusedByFull() throws Exception {
        full("2 farm", county(), "farm", 0, 20, 5, 5, 5, 1);
        full("4 can", county(), "can", 1, 300, 1, 5, 5);
        full("5 test", county(), "test", 2, 200, 1, 5, 1, 500, 5);
        full("12 churn", county(), "churn", 3, 40, 5, 50);
        full("16 box", county(), "box", 4, 100, 1);
        full("26 motion", county(), "motion", 5, 10, 0, 5, 1);
        full("38 cream", county(), "cream", 6, 10, 5, 50, 5);
        full("43 calved", county(), "calved", 7, 40, 1, 5, 5);
        full("45 site", county(), "site", 8, 6, 5, 5, 5);
        full("49 loan", county(), "loan", 9, 6, 5, 5, 5);
        CountyCream x = county();
        for (int i = 1; i < 60; i++) x.write(0, ' ');
        long digest = x.digest();
        Due.due("22 FULL", x.write(0, 'w'), FULL);
        Due.due("22 FULL changes nothing", x.digest(), digest);
        Due.due("22 FULL, another is not", x.write(1, 'w'), 3);
        // What is FULL can be made empty, or gone back from, and takes more then.
        x.erase(0);
        Due.due("22 empty again", x.write(0, 'w'), 1);
        CountyCream y = county();
        for (int i = 3; i < 10; i++) y.cream(5, 50, 5);
        y.drain();
        Due.due("38 empty again", y.cream(5, 50, 5), 0);
        CountyCream z = county();
        for (int i = 2; i < 6; i++) z.loan(5, 5, 5);
        z.from(0);
        Due.due("49 as it was", z.loan(5, 5, 5), 2);
    }

    /** "the first of: BAD .. NO .. FULL": where two of them hold, the first is answered. */
    private static void theFirstOfThem() throws Exception {
        refused("6 BAD before NO", county(), county(), "right", BAD, 1, 1001, 20);
        refused("6 BAD before NO", county(), county(), "right", BAD, 1, 370, 4);
        refused("13 BAD before NO", county(), county(), "fill", BAD, 2, 0);
        refused("15 BAD before NO", county(), county(), "out", BAD, 0, -1);
        refused("17 BAD before NO", county(), county(), "sell", BAD, 0, 1000001, 11);
        refused("17 BAD before NO", county(), county(), "sell", BAD, 0, 7, 5);
        refused("25 BAD before NO", county(), county(), "tells", TELLS_BAD, 1, 3, 0, 9);
        refused("26 BAD before NO", county(), county(), "motion", BAD, 1, 196, 0);
        refused("27 BAD before NO", county(), county(), "vote", -10, 0, 2, 2);
        refused("27 BAD before NO", county(), county(), "vote", -10, 1, 3, 1);
        refused("20 BAD before NO", county(), county(), "lot", -1000, 1, 4);
        CountyCream x = county();
        for (int i = 2; i < 10; i++) x.motion(0, 5, true);
        Due.due("26 BAD before FULL", x.motion(0, -1, true), BAD);
        Due.due("26 NO before FULL", x.motion(1, 5, true), NO);
        Due.due("26 BAD before NO and FULL", x.motion(1, 196, true), BAD);
        CountyCream y = new CountyCream();
        for (int i = 0; i < 9; i++) y.farm(100, 100, 1, true);
        Due.due("36 BAD before NO", y.route(1023), BAD);
        Due.due("37 BAD before NO", y.routeAt(511, -1), BAD);
        Due.due("47 BAD before NO", y.open(2), BAD);
        Due.due("47 NO", y.open(1), NO);
        Due.due("53 BAD before NO", y.from(2), BAD);
    }
}
