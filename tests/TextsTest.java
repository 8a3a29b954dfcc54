/** Promises 22 to 33: texts, motions, pay. */
public final class TextsTest {
    private static final int NONE = CountyCream.NONE, BAD = CountyCream.BAD, NO = CountyCream.NO;
    private static final int FULL = CountyCream.FULL;
    private static final long TELLS_NONE = -1000000000000000000L;

    public static void main(String[] args) {
        writing();
        faults();
        telling();
        names();
        motions();
        votes();
        tears();
        forces();
        moneys();
        smallFat();
        shares();
        pays();
        Due.end();
    }

    private static void put(CountyCream x, int text, String line) {
        x.erase(text);
        for (int i = 0; i < line.length(); i++) x.write(text, line.charAt(i));
    }

    private static void writing() {
        CountyCream x = new CountyCream();
        Due.due("22 first", x.write(0, 0), 1);
        Due.due("22 next", x.write(0, 127), 2);
        Due.due("22 another", x.write(5, 'w'), 1);
        Due.due("22 BAD text", x.write(6, 'w'), BAD);
        Due.due("22 BAD text", x.write(-1, 'w'), BAD);
        Due.due("22 BAD character", x.write(0, 128), BAD);
        Due.due("22 BAD character", x.write(0, -1), BAD);
        for (int i = 3; i <= 60; i++) Due.due("22 next", x.write(0, '1'), i);
        Due.due("22 FULL", x.write(0, '1'), FULL);
        Due.due("22 BAD before FULL", x.write(0, 128), BAD);
        Due.due("23 erase", x.erase(0), 60);
        Due.due("23 again", x.erase(0), 0);
        Due.due("23 the other stays", x.erase(5), 1);
        Due.due("23 BAD", x.erase(6), BAD);
        Due.due("23 BAD", x.erase(-1), BAD);
        Due.due("24 BAD", x.fault(6), BAD);
        Due.due("24 BAD", x.fault(-1), BAD);
    }

    private static void fault(String line, int want) {
        CountyCream x = new CountyCream();
        put(x, 3, line);
        Due.due("24 fault of " + line, x.fault(3), want);
        x.farm(1, 1, 1, true);
        if (want != NONE) Due.due("25 NO of " + line, x.tells(3, 0, 0, 0), -3000000000000000000L);
    }

    private static void faults() {
        String[] fine = {
            "w", "f", "n", "o", "t", "m", "c", "r", "0", "999999", "000000", " w ", "( w )", "!w", "-w", "! - ! w", "--1", "1--1",
            "1<2", "1>2", "1=2", "1|2&3", "1?2:3", "1?2?3:4:5", "1?2:3?4:5", "(1<2)<3", "((((((((1))))))))",
            "((1))+((((((((1))))))))", "1 ? 2 : 3", "w*w/w-w+w", "1<2&3<4", "1<2?3:4",
            "------------------------------------------------------------".substring(1) + "1",
        };
        for (String line : fine) fault(line, NONE);
        fault("", 1);
        fault("   ", 31);
        fault("w+", 21);
        fault("w+ ", 31);
        fault("(w", 21);
        fault("1?2", 31);
        fault("1?2:", 41);
        fault("x", 1);
        fault("w,", 11);
        fault("W", 1);
        fault("12 34", 31);
        fault("1<2<3", 31);
        fault("1<2=3", 31);
        fault("1=2+1>3", 51);
        fault("1:2", 11);
        fault("(1?2):3", 41);
        fault("(1:2)", 21);
        fault("1?(2:3)", 41);
        fault("1)", 11);
        fault("(1))", 31);
        fault("()", 11);
        fault("w w", 21);
        fault("w(1)", 11);
        fault("1!2", 11);
        fault("*1", 1);
        fault("1+*1", 21);
        fault("1?:2", 21);
        fault("1234567", 2);
        fault("12345678", 2);
        fault("w+1234567", 22);
        fault("1 1234567", 21);
        fault("((((((((( 1", 83);
        fault("(((((((( (1", 93);
        fault("w\t", 11);
        fault("1?2:3:4", 51);
        fault("1?2?3:4", 71);
    }

    private static void tell(String line, long want) {
        CountyCream x = new CountyCream();
        x.farm(1, 1, 7, true);
        put(x, 0, line);
        Due.due("25 " + line, x.tells(0, 0, 0, 0), want);
    }

    private static void telling() {
        tell("2+3*4", 14);
        tell("(2+3)*4", 20);
        tell("10-2-3", 5);
        tell("100/7/2", 7);
        tell("-7/2", -3);
        tell("7/-2", -3);
        tell("0-7*2", -14);
        tell("2<3", 1);
        tell("3<3", 0);
        tell("3>2", 1);
        tell("3>3", 0);
        tell("3=3", 1);
        tell("2=3", 0);
        tell("!5", 0);
        tell("!0", 1);
        tell("!!5", 1);
        tell("-!0", -1);
        tell("!-0", 1);
        tell("5|0", 1);
        tell("0|5", 1);
        tell("0|0", 0);
        tell("5&7", 1);
        tell("5&0", 0);
        tell("0&7", 0);
        tell("1|0&0", 1);
        tell("(1|0)&0", 0);
        tell("1<2&2<1", 0);
        tell("2+1<4", 1);
        tell("7?2:3", 2);
        tell("0?2:3", 3);
        tell("0?1:0?2:3", 3);
        tell("1?0?4:5:6", 5);
        tell("1|0?2:3", 2);
        tell("1?2:3+4", 2);
        tell("0?2:3+4", 7);
        tell("(0?2:3)+4", 7);
        tell("-(1?2:3)", -2);
        tell("!(1-1)", 1);
        tell("c", 7);
        tell(" 0 0 7 ".replace(" ", "") + " * 1 ", 7);
        tell("1/0", TELLS_NONE);
        tell("1/(c-7)", TELLS_NONE);
        tell("1/0*0", TELLS_NONE);
        tell("!(1/0)", TELLS_NONE);
        tell("-(1/0)", TELLS_NONE);
        tell("1/0=1/0", TELLS_NONE);
        tell("1/0|1", TELLS_NONE);
        tell("1/0&0", TELLS_NONE);
        tell("1/0?1:1", TELLS_NONE);
        tell("0|1/0", TELLS_NONE);
        tell("1&1/0", TELLS_NONE);
        tell("1|1/0", 1);
        tell("0&1/0", 0);
        tell("0&1/0|0", 0);
        tell("0&1/0|1/0", TELLS_NONE);
        tell("1|1/0|1/0", 1);
        tell("1|1/0&1/0", 1);
        tell("1?3:1/0", 3);
        tell("0?1/0:3", 3);
        tell("1?1/0:3", TELLS_NONE);
        tell("0?3:1/0", TELLS_NONE);
        tell("1?2:1/0?1/0:1/0", 2);
        tell("0?(1/0?1/0:1/0):4", 4);
        tell("0?1|(1/0):1/0", TELLS_NONE);
        tell("(1|1/0)+(0&1/0)", 1);
        tell("1|(0?1/0:1/0)", 1);
        // 999999 ^ 4 is more than a long holds
        tell("999999*999999*999999*999999", 999999L * 999999L * 999999L * 999999L);
        // the least long by -1 stays the least
        tell("-(262144*262144*131072*1024)/-1", Long.MIN_VALUE);
        CountyCream x = new CountyCream();
        x.farm(1, 1, 7, true);
        put(x, 0, "c");
        long bad = -2000000000000000000L;
        Due.due("25 BAD text", x.tells(6, 0, 0, 0), bad);
        Due.due("25 BAD text", x.tells(-1, 0, 0, 0), bad);
        Due.due("25 BAD farm", x.tells(0, 1, 0, 0), bad);
        Due.due("25 BAD farm", x.tells(0, -1, 0, 0), bad);
        Due.due("25 BAD week", x.tells(0, 0, 28, 0), bad);
        Due.due("25 BAD week", x.tells(0, 0, -1, 0), bad);
        Due.due("25 BAD K", x.tells(0, 0, 0, 196), bad);
        Due.due("25 BAD K", x.tells(0, 0, 0, -1), bad);
        Due.due("25 BAD before NO", x.tells(1, 1, 0, 0), bad);
    }

    private static void names() {
        CountyCream x = new CountyCream();
        x.farm(1, 1, 7, true);
        x.farm(1, 1, 8, false);
        x.farm(1, 1, 9, true);
        x.can(0, 5, 100);
        x.can(0, 13, 33);
        x.can(0, 12, 1000);
        x.can(1, 7, 200);
        x.can(2, 14, 133);
        x.can(0, 14, 5);
        x.churn(7, 55);
        x.churn(13, 55);
        x.churn(14, 55);
        x.fill(0, 0);
        x.fill(1, 1);
        x.fill(1, 3);
        x.fill(2, 5);
        x.test(0, 7, 0, 401, 20);
        x.test(0, 13, 0, 401, 21);
        x.test(0, 6, 0, 400, 6);
        x.test(1, 8, 0, 350, 8);
        String[] names = {"w", "f", "n", "o", "t", "m", "c", "r"};
        long[][] due = {
            // fat: 100 at 400 and 33 at 401 or, before that is known, at 400
            {133, (100 * 400 + 33 * 401) / 100, 2, 2, 2, 1, 7, 1},
            {200, 200 * 350 / 100, 1, 6, 1, 0, 8, 0},
            {0, 0, 0, 0, 0, 1, 9, 2},
        };
        for (int i = 0; i < names.length; i++) {
            put(x, 0, names[i]);
            for (int farm = 0; farm < 3; farm++) {
                Due.due("25 " + names[i] + " of " + farm, x.tells(0, farm, 1, 30), due[farm][i]);
            }
        }
        put(x, 0, "f");
        Due.due("25 f as known", x.tells(0, 0, 1, 19), 133 * 400 / 100);
        put(x, 0, "t");
        Due.due("25 t as known", x.tells(0, 0, 1, 20), 1);
        Due.due("25 t as known", x.tells(0, 0, 1, 19), 0);
        put(x, 0, "w");
        Due.due("25 w of the next week", x.tells(0, 0, 2, 30), 5);
        x.fill(2, 4);
        Due.due("25 w of the next week", x.tells(0, 2, 2, 30), 133);
        put(x, 0, "r");
        Due.due("25 r of the next week", x.tells(0, 0, 2, 30), 1);
        Due.due("25 r, no members too", x.tells(0, 1, 2, 30), 2);
        Due.due("25 like ones", x.tells(0, 0, 5, 30), 0);
    }

    private static void motions() {
        CountyCream x = new CountyCream();
        x.farm(1, 1, 7, true);
        put(x, 0, "w+");
        put(x, 1, "7");
        Due.due("26 BAD text", x.motion(6, 0, true), BAD);
        Due.due("26 BAD text", x.motion(-1, 0, true), BAD);
        Due.due("26 BAD day", x.motion(1, -1, true), BAD);
        Due.due("26 BAD day", x.motion(1, 196, true), BAD);
        Due.due("26 BAD before NO", x.motion(0, 196, true), BAD);
        Due.due("26 NO", x.motion(0, 0, true), NO);
        Due.due("26 first", x.motion(1, 0, true), 0);
        Due.due("26 the last day", x.motion(1, 195, true), 1);
        for (int i = 2; i < 10; i++) Due.due("26 next", x.motion(1, 5, false), i);
        Due.due("26 FULL", x.motion(1, 5, false), FULL);
        Due.due("26 NO before FULL", x.motion(0, 5, false), NO);
        Due.due("26 count", x.count(5), 10);
    }

    private static void votes() {
        CountyCream x = new CountyCream();
        for (int cows : new int[] {10, 20, 30, 40}) x.farm(1, 1, cows, true);
        x.farm(1, 1, 50, false);
        put(x, 0, "7");
        x.motion(0, 0, false);
        x.motion(0, 0, true);
        Due.due("27 BAD motion", x.vote(2, 0, 1), -10);
        Due.due("27 BAD motion", x.vote(-1, 0, 1), -10);
        Due.due("27 BAD farm", x.vote(0, 5, 1), -10);
        Due.due("27 BAD farm", x.vote(0, -1, 1), -10);
        Due.due("27 BAD how", x.vote(0, 0, 2), -10);
        Due.due("27 BAD how", x.vote(0, 0, -2), -10);
        Due.due("27 no member", x.vote(0, 4, 1), -20);
        Due.due("27 BAD before NO", x.vote(0, 4, 2), -10);
        Due.due("27 yes", x.vote(0, 0, 1), 0);
        Due.due("27 no", x.vote(0, 0, -1), 1);
        Due.due("27 none", x.vote(0, 0, 0), -1);
        Due.due("27 yes", x.vote(0, 0, 1), 0);
        expect(x, 0, new int[] {1, 0, 4, 0, 0}, "half have not voted");
        x.vote(0, 1, -1);
        expect(x, 0, new int[] {1, 1, 4, 0, 0}, "yes is not above no");
        x.vote(0, 1, 1);
        expect(x, 0, new int[] {2, 0, 4, 1, 0}, "just half");
        x.vote(1, 3, 1);
        expect(x, 1, new int[] {40, 0, 100, 0, 0}, "by cows");
        x.vote(1, 0, -1);
        expect(x, 1, new int[] {40, 10, 100, 1, 0}, "by cows, just half");
        x.change(3, 41, true);
        expect(x, 1, new int[] {41, 10, 101, 1, 0}, "cows now");
        x.change(4, 9, true);
        expect(x, 1, new int[] {41, 10, 110, 0, 0}, "members now");
        x.change(0, 10, false);
        expect(x, 0, new int[] {1, 0, 4, 0, 0}, "who is no member now");
        Due.due("27 no member now", x.vote(0, 0, -1), -20);
        x.change(0, 10, true);
        expect(x, 0, new int[] {2, 0, 5, 0, 0}, "who is one again");
        Due.due("27 what it did", x.vote(0, 0, 1), 1);
        Due.due("27 what another did", x.vote(0, 1, -1), 1);
        Due.due("27 what it did by cows", x.vote(1, 3, 0), 1);
        Due.due("29 BAD motion", x.motionAt(2, 0), BAD);
        Due.due("29 BAD motion", x.motionAt(-1, 0), BAD);
        Due.due("29 BAD what", x.motionAt(0, 5), BAD);
        Due.due("29 BAD what", x.motionAt(0, -1), BAD);
    }

    private static void expect(CountyCream x, int motion, int[] due, String what) {
        for (int i = 0; i < due.length; i++) Due.due("29 " + what + ", " + i, x.motionAt(motion, i), due[i]);
    }

    private static void tears() {
        CountyCream x = new CountyCream();
        x.farm(1, 1, 7, true);
        put(x, 0, "7");
        x.motion(0, 3, false);
        Due.due("28 BAD", x.tear(1, true), BAD);
        Due.due("28 BAD", x.tear(-1, true), BAD);
        Due.due("28 NO", x.tear(0, false), NO);
        x.vote(0, 0, 1);
        Due.due("28 void", x.tear(0, true), 1);
        Due.due("28 NO", x.tear(0, true), NO);
        Due.due("28 void", x.motionAt(0, 4), 1);
        Due.due("28 passed", x.motionAt(0, 3), 1);
        Due.due("27 void", x.vote(0, 0, -1), -20);
        Due.due("30 void", x.force(3), NONE);
        Due.due("28 not void", x.tear(0, false), 1);
        Due.due("30 in force", x.force(3), 0);
    }

    private static void forces() {
        CountyCream x = new CountyCream();
        x.farm(1, 1, 7, true);
        put(x, 0, "7");
        for (int from : new int[] {10, 20, 20, 5, 195}) x.motion(0, from, false);
        Due.due("30 none passed", x.force(195), NONE);
        for (int motion = 0; motion < 4; motion++) x.vote(motion, 0, 1);
        Due.due("30 before all", x.force(4), NONE);
        Due.due("30 first day", x.force(5), 3);
        Due.due("30 later", x.force(10), 0);
        Due.due("30 later", x.force(19), 0);
        Due.due("30 the greatest number", x.force(20), 2);
        Due.due("30 not passed", x.force(195), 2);
        x.vote(4, 0, 1);
        Due.due("30 the last day", x.force(195), 4);
        x.tear(2, true);
        Due.due("30 not void", x.force(194), 1);
        Due.due("30 BAD", x.force(196), BAD);
        Due.due("30 BAD", x.force(-1), BAD);
    }

    private static void moneys() {
        CountyCream x = new CountyCream();
        x.churn(6, 55);
        x.churn(7, 55);
        x.churn(13, 55);
        x.churn(14, 55);
        for (int i = 0; i < 5; i++) x.box(Math.min(i, 3));
        x.sell(0, 1, 10);
        x.sell(1, 10, 20);
        x.sell(2, 100, 21);
        x.sell(3, 1000, 21);
        Due.due("31 money", x.money(1, 21), 110);
        Due.due("31 as known", x.money(1, 20), 10);
        Due.due("31 as known", x.money(1, 19), 0);
        Due.due("31 another week", x.money(0, 10), 1);
        Due.due("31 BAD week", x.money(28, 0), BAD);
        Due.due("31 BAD week", x.money(-1, 0), BAD);
        Due.due("31 BAD K", x.money(0, 196), BAD);
        Due.due("31 BAD K", x.money(0, -1), BAD);
    }

    private static void smallFat() {
        CountyCream x = new CountyCream();
        x.farm(1, 1, 1, true);
        x.can(0, 8, 1);
        x.churn(8, 55);
        x.fill(0, 0);
        x.test(0, 8, 0, 99, 8);
        x.test(0, 8, 0, 101, 9);
        put(x, 0, "f");
        Due.due("25 fat of 99", x.tells(0, 0, 1, 8), 0);
        Due.due("33 fat of 99", x.share(1, 0, 8), 0);
        Due.due("25 fat of 100", x.tells(0, 0, 1, 9), 1);
    }

    /** FARMS 0 to 2 have a CAN of 100, 200, 300 in a CHURN of week 1, FARM 3 none there. */
    private static CountyCream withMilk() {
        CountyCream x = new CountyCream();
        for (int farm = 0; farm < 4; farm++) x.farm(100, 100, 10 * farm, true);
        x.churn(8, 55);
        for (int farm = 0; farm < 3; farm++) {
            x.can(farm, 8, 100 * farm + 100);
            x.fill(0, farm);
        }
        x.can(3, 8, 700);
        x.box(0);
        return x;
    }

    private static void inForce(CountyCream x, String line, int from) {
        put(x, 0, line);
        int motion = x.motion(0, from, false);
        for (int farm = 0; farm < 4; farm++) x.vote(motion, farm, 1);
    }

    private static void shares() {
        CountyCream x = withMilk();
        Due.due("33 f without any", x.share(1, 1, 195), 700);
        Due.due("33 f has no cans there", x.share(1, 3, 195), 0);
        x.test(1, 8, 0, 400, 9);
        Due.due("33 as known", x.share(1, 1, 8), 700);
        Due.due("33 as known", x.share(1, 1, 9), 800);
        inForce(x, "9", 8);
        Due.due("33 in force behind the first day", x.share(1, 0, 195), 350);
        inForce(x, "w-200", 7);
        put(x, 0, "1");
        Due.due("33 below 0", x.share(1, 0, 195), 0);
        Due.due("33 0", x.share(1, 1, 195), 0);
        Due.due("33 the text as it stood", x.share(1, 2, 195), 100);
        inForce(x, "1/(w-200)", 7);
        Due.due("33 tells none", x.share(1, 1, 195), 0);
        inForce(x, "999999*999999", 7);
        Due.due("33 at most", x.share(1, 1, 195), 1000000000);
        Due.due("33 no cans there", x.share(1, 3, 195), 0);
        inForce(x, "10000*100000", 7);
        Due.due("33 just the most", x.share(1, 1, 195), 1000000000);
        inForce(x, "+1", 7);
        Due.due("33 a text with a FAULT is no motion", x.count(5), 5);
        inForce(x, "1+1+1+1+1+1+1+1+1+1+1+1+1+1+1+1+1+1+1+1+1+1+1+1+1+1+1+1+1 +9", 7);
        Due.due("33 a full text", x.share(1, 0, 195), 38);
        Due.due("33 a full text, votes", x.motionAt(5, 0), 4);
        inForce(x, "r+c", 7);
        x.fault(4);
        Due.due("33 names", x.share(1, 0, 195), 2);
        Due.due("33 names", x.share(1, 2, 195), 20);
        Due.due("33 BAD week", x.share(28, 0, 0), BAD);
        Due.due("33 BAD week", x.share(-1, 0, 0), BAD);
        Due.due("33 BAD farm", x.share(0, 4, 0), BAD);
        Due.due("33 BAD farm", x.share(0, -1, 0), BAD);
        Due.due("33 BAD K", x.share(0, 0, 196), BAD);
        Due.due("33 BAD K", x.share(0, 0, -1), BAD);
    }

    private static void expectPay(CountyCream x, String what, long... due) {
        for (int farm = 0; farm < due.length; farm++) Due.due("32 " + what + " " + farm, x.pay(1, farm, 195), due[farm]);
    }

    private static void pays() {
        CountyCream x = withMilk();
        expectPay(x, "no money", 0, 0, 0, 0);
        x.sell(0, 100, 20);
        Due.due("32 not known", x.pay(1, 0, 19), 0);
        // 16.67, 33.33, 50
        expectPay(x, "the greatest that was cut off", 17, 33, 50, 0);
        inForce(x, "1", 7);
        expectPay(x, "of like ones the least", 34, 33, 33, 0);
        x.box(0);
        x.sell(1, 1, 20);
        expectPay(x, "two left over", 34, 34, 33, 0);
        inForce(x, "0", 7);
        expectPay(x, "all shares are 0", 0, 0, 0, 0);
        inForce(x, "w=300", 7);
        expectPay(x, "one has all", 0, 0, 101, 0);
        inForce(x, "w/100*(w-200)*(w-200)", 7);
        // shares 10000, 0, 30000 of 101: 25.25, 0, 75.75
        expectPay(x, "nothing for 0", 25, 0, 76, 0);
        inForce(x, "999999*1000+1000-w/300", 7);
        // 1000000000 twice, 999999999 once
        expectPay(x, "large shares", 34, 34, 33, 0);
        Due.due("32 BAD week", x.pay(28, 0, 0), BAD);
        Due.due("32 BAD week", x.pay(-1, 0, 0), BAD);
        Due.due("32 BAD farm", x.pay(0, 4, 0), BAD);
        Due.due("32 BAD farm", x.pay(0, -1, 0), BAD);
        Due.due("32 BAD K", x.pay(0, 0, 196), BAD);
        Due.due("32 BAD K", x.pay(0, 0, -1), BAD);
    }
}
