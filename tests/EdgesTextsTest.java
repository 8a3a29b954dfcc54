/** Terms 3 of the document, sentence by sentence: TEXTS, names, MOTIONS, PAY, at each edge that a sentence names. */
public final class EdgesTextsTest {
    private static final int NONE = CountyCream.NONE, NO = CountyCream.NO, FULL = CountyCream.FULL, LAST = CountyCream.LAST;
    private static final long TELLS_NONE = -1000000000000000000L, TELLS_NO = -3000000000000000000L;
    private static final long MOST = 9223372036854775807L, LEAST = -MOST - 1;
    private static final String TWO_TO_62 = "262144*262144*131072*512", TWO_TO_63 = "262144*262144*131072*1024";

    public static void main(String[] args) {
        fullText();
        sixTexts();
        numbers();
        blanks();
        otherCharacters();
        tooEarly();
        ninthOpen();
        oneComparison();
        elseOfWhich();
        leftOn();
        truths();
        noFurther();
        wraps();
        cutTowardZero();
        byZero();
        namesOfNothing();
        namesOfMuch();
        rank();
        textAsItStood();
        passedByHeads();
        passedByCows();
        membersNow();
        lastVoteCounts();
        inForce();
        firstDay();
        leastAndMostShare();
        pennies();
        greatestCutOff();
        moreThanAnInt();
        nobodyGetsAny();
        Due.end();
    }

    private static void put(CountyCream x, int text, String line) {
        x.erase(text);
        for (int i = 0; i < line.length(); i++) x.write(text, line.charAt(i));
    }

    private static void fault(String line, int want) {
        CountyCream x = new CountyCream();
        x.farm(1, 1, 7, true);
        put(x, 5, line);
        Due.due("24 fault of " + line, x.fault(5), want);
        Due.due("25 FAULT or none, " + line, (x.tells(5, 0, 0, 0) == TELLS_NO) == (want != NONE));
        Due.due("26 FAULT or none, " + line, x.motion(5, 0, true), want == NONE ? 0 : NO);
    }

    private static void tell(String line, long want) {
        CountyCream x = new CountyCream();
        x.farm(1, 1, 7, true);
        put(x, 0, line);
        Due.due("24 " + line, x.fault(0), NONE);
        Due.due("25 " + line, x.tells(0, 0, 0, 0), want);
    }

    /** "a row of characters, 60 at most"; "(the TEXT's length: it ends too early)" of a full one. */
    private static void fullText() {
        CountyCream x = new CountyCream();
        x.farm(1, 1, 7, true);
        for (int i = 1; i <= 59; i++) Due.due("22 character " + i, x.write(5, i % 2 == 1 ? 'c' : '+'), i);
        Due.due("25 of 59", x.tells(5, 0, 0, 0), 30 * 7);
        Due.due("22 the last", x.write(5, ' '), 60);
        Due.due("22 FULL", x.write(5, '9'), FULL);
        Due.due("25 of 60", x.tells(5, 0, 0, 0), 30 * 7);
        Due.due("23 of 60", x.erase(5), 60);
        Due.due("23 of none", x.erase(5), 0);
        Due.due("24 of none", x.fault(5), 1);
        Due.due("25 of none", x.tells(5, 0, 0, 0), TELLS_NO);
        Due.due("26 of none", x.motion(5, 0, false), NO);
        fault("w+".repeat(30), 601);
        fault(" ".repeat(60), 601);
        fault("-".repeat(60), 601);
        fault("!".repeat(60), 601);
        fault("w".repeat(60), 11);
        fault("1?".repeat(30), 601);
        fault("1".repeat(60), 2);
        fault("(".repeat(60), 83);
        fault("w+".repeat(26) + " 1234567", 532);
        fault("w+".repeat(27) + "123456", NONE);
        fault("(".repeat(8) + " ".repeat(51) + "(", 593);
        fault(" ".repeat(59) + ")", 591);
        fault(" ".repeat(59) + "w", NONE);
        tell("!".repeat(59) + "c", 0);
        tell("-".repeat(59) + "c", -7);
        tell("-".repeat(58) + "c", 7);
        tell("((((((((" + "c+".repeat(21) + "c))))))))", 22 * 7);
        tell("0?c:".repeat(14) + "5", 5);
        tell("1?".repeat(14) + "c" + ":0".repeat(14), 7);
        tell("0|".repeat(29) + "c", 1);
        tell("c&".repeat(29) + "0", 0);
    }

    /** "A TEXT 0 .. 5": each is its own. */
    private static void sixTexts() {
        CountyCream x = new CountyCream();
        x.farm(1, 1, 7, true);
        for (int text = 0; text < 6; text++) {
            Due.due("24 new", x.fault(text), 1);
            for (int i = 0; i <= text; i++) Due.due("22 how many", x.write(text, '1' + text), i + 1);
        }
        long[] due = {1, 22, 333, 4444, 55555, 666666};
        for (int text = 0; text < 6; text++) Due.due("25 text " + text, x.tells(text, 0, 0, 0), due[text]);
        Due.due("23 how many", x.erase(3), 4);
        for (int text = 0; text < 6; text++) Due.due("24 text " + text, x.fault(text), text == 3 ? 1 : NONE);
    }

    /** "a number of 1 .. 6 digits"; "2 a number of 7 digits (told at its first)". */
    private static void numbers() {
        tell("0", 0);
        tell("9", 9);
        tell("10", 10);
        tell("999999", 999999);
        tell("000000", 0);
        tell("000007", 7);
        tell("0+999999", 999999);
        fault("1000000", 2);
        fault("0000000", 2);
        fault("0999999", 2);
        fault("00000000000", 2);
        fault("w+0000007", 22);
        fault("w+ 9999999 x", 32);
        fault("(1234567", 12);
        fault("-1234567", 12);
        fault("1<1234567)", 22);
        // The first fault is told, and a number that can not stand there is no number.
        fault("x1234567", 1);
        fault("w1234567", 11);
        fault("1234567x", 2);
        fault("123456w", 61);
        fault("123456 7", 71);
        fault("123456.7", 61);
    }

    /** "blanks (character 32) stand anywhere but within numbers". */
    private static void blanks() {
        tell(" c", 7);
        tell("c ", 7);
        tell("   c   ", 7);
        tell(" ( c ) ", 7);
        tell(" ! c ", 0);
        tell(" - c ", -7);
        tell("- - c", 7);
        tell(" 1 ? 2 : 3 ", 2);
        tell(" 1 | 0 & 0 < 1 ", 1);
        tell("12 - 5", 7);
        tell("12 -5", 7);
        fault("1 2", 21);
        fault("1  2", 31);
        fault("12345 6", 61);
        fault("w w", 21);
        fault("w  2", 31);
        fault("2 w", 21);
        fault("( )", 21);
        fault("1 ? : 2", 41);
    }

    /** A character stands as it is: no other blank, no other case, nothing from 0 to 127 but the language's. */
    private static void otherCharacters() {
        String first = "0123456789wfnotmcr(!- ", behind = "+-*/<>=|&? 0123456789";
        for (int sign = 0; sign <= 127; sign++) {
            CountyCream x = new CountyCream();
            x.write(0, sign);
            Due.due("24 first " + sign, x.fault(0), starts(first, sign));
            x.erase(0);
            x.write(0, '1');
            x.write(0, sign);
            int due = behind.indexOf(sign) < 0 ? 11 : sign >= '0' && sign <= '9' || sign == ' ' ? NONE : 21;
            Due.due("24 behind 1, " + sign, x.fault(0), due);
        }
        fault("w\t", 11);
        fault("\nw", 1);
        fault("C", 1);
        fault("{1}", 1);
        fault("1,2", 11);
        fault("1.5", 11);
        fault("1==2", 21);
        fault("1<=2", 21);
        fault("1&&2", 21);
        fault("1||2", 21);
        fault("+1", 1);
        fault("1+-+1", 31);
    }

    private static int starts(String first, int sign) {
        if (first.indexOf(sign) < 0) return 1;
        boolean ends = sign == '(' || sign == '!' || sign == '-' || sign == ' ';
        return ends ? 11 : NONE;
    }

    /** "the first character that can not stand there (the TEXT's length: it ends too early)". */
    private static void tooEarly() {
        String[] heads = {"w+", "w-", "w*", "w/", "w<", "w>", "w=", "w|", "w&", "w?", "w?1", "1?2:", "!", "-", "("};
        for (String head : heads) {
            fault(head, 10 * head.length() + 1);
            fault(head + "  ", 10 * head.length() + 21);
            fault(head + ")", 10 * head.length() + 1);
        }
        for (String head : new String[] {"(w", "(w?1:2", "1?(2", "1?(2)", "!(", "(("}) {
            fault(head, 10 * head.length() + 1);
            fault(head + " ", 10 * head.length() + 11);
        }
        fault("w)", 11);
        fault(")", 1);
        fault("?", 1);
        fault(":", 1);
        fault("(w))", 31);
        fault("(w?1)", 41);
        fault("(w?1:2:3)", 61);
        fault("1?2:3)", 51);
        // A fault ahead of the end is told, though the TEXT ends too early too.
        fault("(w+)", 31);
        fault("((w+x", 41);
    }

    /** "3 the 9th ( that would be open": what is closed is open no more. */
    private static void ninthOpen() {
        tell("((((((((c))))))))", 7);
        tell("((((((((c)))))))+(((((((c))))))))", 14);
        fault("(((((((((c)))))))))", 83);
        fault("(((((((((", 83);
        fault("((((((((c+((c", 103);
        fault("((((((((!(", 93);
        fault("((((((((-(", 93);
        fault("((((((((c?(", 103);
        fault("((((((((c)+((", 123);
        fault("(c)+(c)+(c)+(c)+(c)+(c)+(c)+(c)+(c)+(c)", NONE);
        // A ( that can not stand there at all is such, be it the 9th or not.
        fault("((((((((c(", 91);
        fault("c(", 11);
    }

    /** "HELD: SUM, or SUM < SUM, SUM > SUM, SUM = SUM": one of them, no more. */
    private static void oneComparison() {
        for (String one : new String[] {"<", ">", "="}) {
            for (String other : new String[] {"<", ">", "="}) {
                fault("1" + one + "2" + other + "3", 31);
                fault("1" + one + "2+1" + other + "3", 51);
                fault("0|1" + one + "2" + other + "3", 51);
                fault("(1" + one + "2)" + other + "3", NONE);
                fault("1" + one + "(2" + other + "3)", NONE);
                fault("1" + one + "2&1" + other + "3", NONE);
                fault("1" + one + "2|1" + other + "3", NONE);
                fault("1" + one + "2?1" + other + "3:4" + one + "5", NONE);
            }
        }
        tell("(1<2)<3", 1);
        tell("1<(2<3)", 0);
        tell("1<1", 0);
        tell("1>1", 0);
        tell("1=1", 1);
        tell("-1<0", 1);
        tell("2*3<2+4", 0);
        tell("2*3=2+4", 1);
        tell("2*3>2+4", 0);
    }

    /** "VALUE: EITHER, or EITHER ? VALUE : VALUE". */
    private static void elseOfWhich() {
        tell("1?0?2:3:4", 3);
        tell("0?0?2:3:4", 4);
        tell("1?1?2:3:4", 2);
        tell("0?1:0?2:3", 3);
        tell("1?2:3?4:5", 2);
        tell("0?2:0?4:5", 5);
        tell("1|0?2|0:3", 1);
        tell("0&1?2:3&4", 1);
        tell("(1?0:1)?2:3", 3);
        tell("1?(0?2:3):4", 3);
        fault("1?2:3:4", 51);
        fault("1?2?3:4", 71);
        fault("1?2?3:4:5", NONE);
        fault("1??2:3", 21);
        fault("1?:2", 21);
        fault("1:2", 11);
        fault("(1?2):3", 41);
        fault("(1:2)", 21);
        fault("1?(2:3)", 41);
    }

    /** "From the left on", and what binds closer first. */
    private static void leftOn() {
        tell("10-2-3", 5);
        tell("10-2+3", 11);
        tell("100/7/2", 7);
        tell("7/2*2", 6);
        tell("2*7/2", 7);
        tell("8-3*2", 2);
        tell("-2-3", -5);
        tell("-2*-3", 6);
        tell("2- -3", 5);
        tell("2--3", 5);
        tell("2---3", -1);
        tell("!1-1", -1);
        tell("!0+!0", 2);
        tell("!0*5", 5);
        tell("!(1-1)", 1);
        tell("-!0", -1);
        tell("!-0", 1);
        tell("2<1+1+1", 1);
        tell("3-1=2", 1);
        tell("1|0&0", 1);
        tell("0&0|1", 1);
        tell("0=0&0", 0);
    }

    /** "Truths are 1, 0; what is not 0 is true". One UNIT alone is no truth. */
    private static void truths() {
        tell("7", 7);
        tell("(7)", 7);
        tell("7|7", 1);
        tell("0|7", 1);
        tell("7|0", 1);
        tell("0|0", 0);
        tell("7&8", 1);
        tell("7&0", 0);
        tell("0&7", 0);
        tell("-1|0", 1);
        tell("0|-1", 1);
        tell("-1&-1", 1);
        tell("-1?2:3", 2);
        tell("0?2:3", 3);
        tell("-0?2:3", 3);
        tell("!7", 0);
        tell("!-1", 0);
        tell("!0", 1);
        tell("!!7", 1);
        tell("5&5=5", 1);
        tell("5=5&5", 1);
    }

    /** "| & ? go no further than needed": what they do not need may be by 0. */
    private static void noFurther() {
        String[] one = {
            "1|1/0", "1|(1/0)+1", "1|0&1/0", "(0&1/0)|1", "0|0|1|1/0", "1&0&1/0|2", "c|1/0", "1|(1/0?1/0:1/0)", "-5|1/0",
            "0&1/0|1", "1&(1|1/0)", "1|1/0|1/0", "1|1/0&1/0", "!(0&1/0)", "(1|1/0)*(1|1/0)",
        };
        for (String line : one) tell(line, 1);
        String[] zero = {"0&1/0", "0&(1|1/0)", "1&1&0&1/0", "!(1|1/0)", "(c-7)&1/0", "0&0|0&1/0", "0&1/0&1/0", "0&(0?1/0:1/0)"};
        for (String line : zero) tell(line, 0);
        String[] two = {"1?2:1/0", "0?1/0:2", "1|1/0?2:1/0", "0&1/0?1/0:2", "1?1?2:1/0:1/0", "0?1/0:0?1/0:2", "1?2:1/0?1/0:1/0", "0?1/0?1:1:2"};
        for (String line : two) tell(line, 2);
        String[] none = {
            "0|1/0", "1&1/0", "1?1/0:2", "0?2:1/0", "1/0|1", "1/0&0", "1/0?1:1", "0&1/0|1/0", "0&1|1/0", "1&0|1/0", "0|1&1/0",
            "(0|1/0)&0", "1?0|1/0:2", "0?2:1&1/0", "(1/0)|1", "!(1/0)|1", "0&1/0?2:1/0", "1|1/0?1/0:2",
        };
        for (String line : none) tell(line, TELLS_NONE);
    }

    /** "longs wrap". */
    private static void wraps() {
        tell(TWO_TO_62, 4611686018427387904L);
        tell(TWO_TO_62 + "+" + TWO_TO_62, LEAST);
        tell("-(" + TWO_TO_62 + ")*2", LEAST);
        tell("-(" + TWO_TO_62 + ")*2-1", MOST);
        tell(TWO_TO_62 + "*4", 0);
        tell(TWO_TO_63, LEAST);
        tell(TWO_TO_63 + "-1", MOST);
        tell(TWO_TO_63 + "-1+1", LEAST);
        tell(TWO_TO_63 + "-1-1", MOST - 1);
        tell("-(" + TWO_TO_63 + ")", LEAST);
        tell("-(" + TWO_TO_63 + "+1)", MOST);
        tell("0-" + TWO_TO_63, LEAST);
        tell(TWO_TO_63 + "*-1", LEAST);
        tell(TWO_TO_63 + "/-1", LEAST);
        tell(TWO_TO_63 + "/1", LEAST);
        tell(TWO_TO_63 + "/2", -4611686018427387904L);
        tell(TWO_TO_63 + "*2", 0);
        tell("!(" + TWO_TO_63 + "*2)", 1);
        tell(TWO_TO_63 + "*2?2:3", 3);
        tell(TWO_TO_63 + "|0", 1);
        tell(TWO_TO_63 + "&1", 1);
        tell(TWO_TO_63 + "<0", 1);
        tell(TWO_TO_63 + "-1>0", 1);
        tell(TWO_TO_63 + "<-1", 1);
        tell(TWO_TO_63 + "-1<" + TWO_TO_63, 0);
        tell(TWO_TO_63 + "=-(" + TWO_TO_63 + ")", 1);
        tell("1/(" + TWO_TO_63 + "*2)", TELLS_NONE);
        tell("999999*999999*999999*999999", -1996229794797103359L);
        // What is told by the number that stands for none is told all the same.
        tell("-(1000*1000*1000*1000*1000*1000)", -1000000000000000000L);
    }

    /** "/ cut toward 0". */
    private static void cutTowardZero() {
        tell("7/2", 3);
        tell("-7/2", -3);
        tell("7/-2", -3);
        tell("-7/-2", 3);
        tell("1/2", 0);
        tell("-1/2", 0);
        tell("1/-2", 0);
        tell("0/5", 0);
        tell("0/-5", 0);
        tell("6/2", 3);
        tell("-6/2", -3);
        tell("999999/999999", 1);
        tell("999998/999999", 0);
    }

    /** "By 0: it tells none (as does what is made of it)." */
    private static void byZero() {
        String[] lines = {
            "1/0", "0/0", "-1/0", "c/(c-7)", "1/-0", "1/!1", "1/(1=2)", "1/(1/2)", "0*(1/0)", "1/0*0", "1/0=1/0", "(1/0)", "-(1/0)",
            "!(1/0)", "!!(1/0)", "1/0-1/0", "1/0<1", "1>1/0", "1+1/0", "1/(1/0)", "1/0/0", "0/(1/0)", "c/n", "1/(0&1)", "1/(1?0:1)",
            "((1/0))", "1/000000",
        };
        for (String line : lines) tell(line, TELLS_NONE);
        tell("0/1", 0);
        tell("1/1", 1);
        tell("1/!0", 1);
    }

    private static long tells(CountyCream x, String line, int farm, int week, int k) {
        put(x, 0, line);
        return x.tells(0, farm, week, k);
    }

    /** "of the CANS of the FARM that are in CHURNS of DAYS of the WEEK": of none they are 0. */
    private static void namesOfNothing() {
        CountyCream x = new CountyCream();
        x.farm(1, 1, 0, false);
        x.farm(1, 1, 60, true);
        x.can(0, 8, 1000);
        x.can(0, 7, 500);
        x.churn(14, 55);
        x.fill(0, 1);
        for (String name : new String[] {"w", "f", "n", "o", "t", "m", "c", "r"}) {
            Due.due("25 " + name + " of nothing", tells(x, name, 0, 1, 195), 0);
        }
        Due.due("25 m of a MEMBER", tells(x, "m", 1, 1, 195), 1);
        Due.due("25 c of 60", tells(x, "c", 1, 1, 195), 60);
        Due.due("25 r of none", tells(x, "r", 1, 1, 195), 0);
        Due.due("25 in the CHURN's week", tells(x, "w", 0, 2, 195), 500);
        Due.due("25 o", tells(x, "o", 0, 2, 195), 7);
        Due.due("25 r behind it", tells(x, "r", 1, 2, 195), 1);
        x.change(0, 60, true);
        x.change(1, 0, false);
        Due.due("25 m now", tells(x, "m", 0, 1, 195), 1);
        Due.due("25 m now", tells(x, "m", 1, 1, 195), 0);
        Due.due("25 c now", tells(x, "c", 0, 1, 195), 60);
        Due.due("25 c now", tells(x, "c", 1, 1, 195), 0);
    }

    /** "f their FAT together by 100, cut"; "o how many DAYS they are older .. together"; "t how many TESTS .. KNOWN". */
    private static void namesOfMuch() {
        CountyCream x = new CountyCream();
        x.farm(1, 1, 1, true);
        x.test(0, 0, 0, 33, 0);
        x.can(0, 7, 1);
        x.can(0, 7, 2);
        x.can(0, 7, 3);
        x.can(0, 7, 4);
        x.churn(7, 55);
        x.churn(13, 55);
        int[] fats = {0, 0, 1, 3};
        for (int can = 0; can < 4; can++) {
            x.fill(can / 2, can);
            Due.due("25 f of 33 by " + (can + 1), tells(x, "f", 0, 1, 195), fats[can]);
        }
        Due.due("25 w", tells(x, "w", 0, 1, 195), 10);
        Due.due("25 n", tells(x, "n", 0, 1, 195), 4);
        Due.due("25 o", tells(x, "o", 0, 1, 195), 12);
        x.can(0, 4, 1);
        x.fill(1, 4);
        Due.due("25 o of 9 DAYS too", tells(x, "o", 0, 1, 195), 21);
        x.test(0, 7, 0, LAST, 9);
        x.test(0, 13, 0, 500, 13);
        x.test(0, 6, 0, 500, 13);
        x.test(0, 14, 0, 500, 14);
        x.right(2, 400, 20);
        Due.due("25 t, none known", tells(x, "t", 0, 1, 8), 0);
        Due.due("25 t, LAST", tells(x, "t", 0, 1, 9), 1);
        Due.due("25 t", tells(x, "t", 0, 1, 13), 2);
        Due.due("25 t, put right once is one", tells(x, "t", 0, 1, 195), 2);
        CountyCream y = new CountyCream();
        y.farm(1, 1, 1, true);
        y.test(0, 0, 0, 1000, 0);
        y.churn(9, 55);
        for (int can = 0; can < 230; can++) y.fill(0, y.can(0, 0, 1000));
        Due.due("25 w of 230 CANS", tells(y, "w", 0, 1, 195), 230000);
        Due.due("25 f of 230 CANS", tells(y, "f", 0, 1, 195), 2300000);
        Due.due("25 n of 230 CANS", tells(y, "n", 0, 1, 195), 230);
        Due.due("25 o of 230 CANS", tells(y, "o", 0, 1, 195), 2070);
    }

    /** "r its RANK: how many FARMS have a greater w" (like ones have none ahead of each other). */
    private static void rank() {
        CountyCream x = new CountyCream();
        x.churn(0, 55);
        for (int farm = 0; farm < 20; farm++) {
            x.farm(1, 1, 1, farm % 2 == 0);
            if (farm != 19) x.fill(0, x.can(farm, 0, 100 - farm));
        }
        x.can(19, 0, 999);
        put(x, 0, "r");
        for (int farm = 0; farm < 20; farm++) Due.due("25 r of " + farm, x.tells(0, farm, 0, 195), farm);
        x.fill(0, x.can(5, 0, 1));
        Due.due("25 r of two alike", x.tells(0, 4, 0, 195), 4);
        Due.due("25 r of two alike", x.tells(0, 5, 0, 195), 4);
        Due.due("25 r behind both", x.tells(0, 6, 0, 195), 6);
        x.fill(0, 19);
        Due.due("25 r of the greatest", x.tells(0, 19, 0, 195), 0);
        Due.due("25 r of the second", x.tells(0, 0, 0, 195), 1);
        Due.due("25 r of the least", x.tells(0, 18, 0, 195), 19);
        Due.due("25 r of all alike", x.tells(0, 3, 1, 195), 0);
    }

    /** FARMS of a COW each, as many MEMBERS as told, with a CAN of weight farm + 1 each in a CHURN of week 1. */
    private static CountyCream withMilk(int farms) {
        CountyCream x = new CountyCream();
        x.churn(7, 55);
        for (int farm = 0; farm < farms; farm++) {
            x.farm(1, 1, 1, true);
            x.fill(0, x.can(farm, 7, farm + 1));
        }
        return x;
    }

    private static int passed(CountyCream x, String line, int from) {
        put(x, 0, line);
        int motion = x.motion(0, from, false);
        for (int farm = 0; farm < x.count(0); farm++) x.vote(motion, farm, 1);
        return motion;
    }

    /** "that a TEXT (as it stands then, without FAULT) be in force". */
    private static void textAsItStood() {
        CountyCream x = withMilk(2);
        passed(x, "w+40", 0);
        x.erase(0);
        Due.due("33 erased", x.share(1, 0, 195), 41);
        put(x, 0, "5");
        Due.due("33 written anew", x.share(1, 0, 195), 41);
        x.write(0, '+');
        Due.due("33 with a FAULT now", x.share(1, 0, 195), 41);
        Due.due("26 with a FAULT now", x.motion(0, 0, true), NO);
        Due.due("26 none was made", x.count(5), 1);
        put(x, 0, "w+50");
        Due.due("33 not moved", x.share(1, 1, 195), 42);
        Due.due("26 moved", passed(x, "w+50", 0), 1);
        Due.due("33 moved", x.share(1, 1, 195), 52);
        put(x, 5, "w+".repeat(29) + "60");
        x.motion(5, 0, false);
        for (int farm = 0; farm < 2; farm++) x.vote(2, farm, 1);
        x.erase(5);
        Due.due("33 60 characters", x.share(1, 1, 195), 29 * 2 + 60);
    }

    /** "PASSED: yes is above no, and both together are .. (twice them no less than all)." members, yes, no, PASSED. */
    private static void passedByHeads() {
        int[][] rows = {
            {0, 0, 0, 0}, {1, 0, 0, 0}, {1, 1, 0, 1}, {1, 0, 1, 0}, {2, 1, 0, 1}, {2, 0, 1, 0}, {2, 1, 1, 0}, {2, 2, 0, 1}, {3, 1, 0, 0},
            {3, 1, 1, 0}, {3, 2, 0, 1}, {3, 2, 1, 1}, {3, 1, 2, 0}, {4, 1, 0, 0}, {4, 2, 0, 1}, {4, 2, 1, 1}, {4, 2, 2, 0}, {4, 1, 2, 0},
            {5, 2, 0, 0}, {5, 2, 1, 1}, {5, 3, 2, 1}, {19, 9, 0, 0}, {19, 5, 4, 0}, {19, 10, 0, 1}, {19, 6, 4, 1}, {20, 9, 0, 0},
            {20, 10, 0, 1}, {20, 5, 5, 0}, {20, 6, 4, 1}, {20, 11, 9, 1}, {20, 10, 10, 0}, {20, 20, 0, 1}, {20, 0, 20, 0},
        };
        for (int[] row : rows) {
            CountyCream x = new CountyCream();
            for (int farm = 0; farm < row[0]; farm++) x.farm(1, 1, farm * 3, true);
            if (row[0] < 20) x.farm(1, 1, 60, false);
            x.write(0, '1');
            x.motion(0, 9, false);
            for (int farm = 0; farm < row[1] + row[2]; farm++) x.vote(0, farm, farm < row[1] ? 1 : -1);
            String told = row[0] + " members, yes " + row[1] + ", no " + row[2];
            Due.due("29 yes of " + told, x.motionAt(0, 0), row[1]);
            Due.due("29 no of " + told, x.motionAt(0, 1), row[2]);
            Due.due("29 all of " + told, x.motionAt(0, 2), row[0]);
            Due.due("29 PASSED of " + told, x.motionAt(0, 3), row[3]);
            Due.due("30 in force of " + told, x.force(9), row[3] == 1 ? 0 : NONE);
        }
    }

    /** "or by COWS (of MEMBERS)": of whom yes, no and nothing was said; PASSED. */
    private static void passedByCows() {
        int[][] rows = {
            {0, 0, 0, 0}, {1, 0, 0, 1}, {0, 1, 0, 0}, {10, 0, 10, 1}, {10, 0, 11, 0}, {10, 9, 19, 1}, {10, 9, 20, 0}, {10, 10, 0, 0},
            {60, 60, 60, 0}, {60, 59, 60, 1}, {60, 0, 60, 1}, {59, 0, 60, 0}, {1, 0, 1, 1}, {0, 0, 1, 0},
        };
        for (int[] row : rows) {
            CountyCream x = new CountyCream();
            for (int farm = 0; farm < 3; farm++) x.farm(1, 1, row[farm], true);
            x.farm(1, 1, 60, false);
            x.write(0, '1');
            x.motion(0, 0, true);
            x.vote(0, 0, 1);
            x.vote(0, 1, -1);
            String told = "cows " + row[0] + ", " + row[1] + ", " + row[2];
            Due.due("29 yes by " + told, x.motionAt(0, 0), row[0]);
            Due.due("29 no by " + told, x.motionAt(0, 1), row[1]);
            Due.due("29 all by " + told, x.motionAt(0, 2), row[0] + row[1] + row[2]);
            Due.due("29 PASSED by " + told, x.motionAt(0, 3), row[3]);
        }
        CountyCream y = new CountyCream();
        for (int farm = 0; farm < 20; farm++) y.farm(1, 1, 60, true);
        y.write(0, '1');
        y.motion(0, 0, true);
        for (int farm = 0; farm < 20; farm++) y.vote(0, farm, 1);
        Due.due("29 all there can be", y.motionAt(0, 0), 1200);
    }

    /** "(Of who is a MEMBER now.)" */
    private static void membersNow() {
        CountyCream x = new CountyCream();
        for (int farm = 0; farm < 4; farm++) x.farm(1, 1, 5, true);
        x.write(0, '1');
        x.motion(0, 0, false);
        x.vote(0, 0, 1);
        Due.due("29 one of four", x.motionAt(0, 3), 0);
        x.change(3, 5, false);
        x.change(2, 5, false);
        Due.due("29 one of two", x.motionAt(0, 3), 1);
        Due.due("30 in force by who left", x.force(0), 0);
        x.change(0, 5, false);
        Due.due("29 none of one", x.motionAt(0, 0), 0);
        Due.due("29 one is all", x.motionAt(0, 2), 1);
        Due.due("30 no more in force", x.force(0), NONE);
        x.change(1, 5, false);
        Due.due("29 nobody is all", x.motionAt(0, 2), 0);
        Due.due("29 nobody passes none", x.motionAt(0, 3), 0);
        Due.due("27 no MEMBER", x.vote(0, 0, 1), -20);
        x.change(0, 5, true);
        Due.due("29 again", x.motionAt(0, 3), 1);
        x.tear(0, true);
        Due.due("29 PASSED, though VOID", x.motionAt(0, 3), 1);
        Due.due("29 yes, though VOID", x.motionAt(0, 0), 1);
        Due.due("29 VOID", x.motionAt(0, 4), 1);
        Due.due("30 VOID is not in force", x.force(195), NONE);
    }

    /** "MEMBERS vote yes, no (the last vote counts; 0 none)". */
    private static void lastVoteCounts() {
        CountyCream x = new CountyCream();
        x.farm(1, 1, 5, true);
        x.write(0, '1');
        x.motion(0, 0, false);
        int was = 0;
        for (int how : new int[] {0, 1, 1, 0, 0, -1, -1, 1, -1, 0, 1}) {
            Due.due("27 what it did ahead of " + how, x.vote(0, 0, how), was);
            Due.due("29 yes", x.motionAt(0, 0), how == 1 ? 1 : 0);
            Due.due("29 no", x.motionAt(0, 1), how == -1 ? 1 : 0);
            Due.due("29 all", x.motionAt(0, 2), 1);
            was = how;
        }
    }

    /** "from that DAY or earlier, the one of the latest DAY, of like ones the greatest number; without any: f." */
    private static void inForce() {
        CountyCream x = new CountyCream();
        x.farm(1, 1, 5, true);
        int[] from = {195, 0, 100, 100, 0, 99, 101, 195, 100, 194};
        for (int i = 0; i < 10; i++) Due.due("26 next", passed(x, "1", from[i]), i);
        int[][] due = {{0, 4}, {98, 4}, {99, 5}, {100, 8}, {101, 6}, {193, 6}, {194, 9}, {195, 7}};
        for (int[] row : due) Due.due("30 day " + row[0], x.force(row[0]), row[1]);
        x.tear(7, true);
        Due.due("30 VOID", x.force(195), 0);
        x.vote(0, 0, -1);
        Due.due("30 not PASSED", x.force(195), 9);
        x.tear(7, false);
        Due.due("30 not VOID", x.force(195), 7);
        x.tear(8, true);
        Due.due("30 the next greatest", x.force(100), 3);
        x.tear(4, true);
        x.tear(1, true);
        Due.due("30 none left", x.force(98), NONE);
        Due.due("30 one left", x.force(99), 5);
    }

    /** "what the TEXT IN FORCE on its first DAY tells". */
    private static void firstDay() {
        for (int week : new int[] {0, 1, 27}) {
            for (int more = -1; more <= 1; more++) {
                if (7 * week + more < 0) continue;
                CountyCream x = new CountyCream();
                x.farm(1, 1, 1, true);
                x.churn(7 * week + 6, 55);
                x.fill(0, x.can(0, 7 * week + 6, 100));
                passed(x, "5", 7 * week + more);
                String told = "33 from " + (7 * week + more) + " in week " + week;
                Due.due(told, x.share(week, 0, 195), more <= 0 ? 5 : 350);
                Due.due("31 in force later in week " + week, x.force(7 * week + 6), 0);
            }
        }
    }

    private static void shareBy(String line, long want) {
        CountyCream x = withMilk(1);
        passed(x, line, 7);
        Due.due("33 of " + line, x.share(1, 0, 195), want);
        Due.due("33 of " + line + ", without CANS", x.share(2, 0, 195), 0);
    }

    /** "0 if that is none or below 0, or the FARM has no CANS there; 1000000000 at most." */
    private static void leastAndMostShare() {
        shareBy("-1", 0);
        shareBy("0", 0);
        shareBy("1", 1);
        shareBy("1/0", 0);
        shareBy("5+1/(w-1)", 0);
        shareBy("999999*1000+999", 999999999);
        shareBy("1000*1000*1000", 1000000000);
        shareBy("1000*1000*1000+1", 1000000000);
        shareBy(TWO_TO_62, 1000000000);
        shareBy(TWO_TO_63, 0);
        shareBy(TWO_TO_63 + "-1", 1000000000);
        shareBy(TWO_TO_62 + "*4", 0);
        shareBy("-(1000*1000*1000*1000*1000*1000)", 0);
        // Not for want of weight, but of CANS: a CAN in no CHURN, or of another week, is none there.
        CountyCream x = withMilk(2);
        passed(x, "7", 7);
        x.farm(1, 1, 1, true);
        Due.due("33 no CAN", x.share(1, 2, 195), 0);
        x.can(2, 7, 5);
        Due.due("33 a CAN in no CHURN", x.share(1, 2, 195), 0);
        x.churn(14, 55);
        x.fill(1, 2);
        Due.due("33 a CAN in a CHURN behind", x.share(1, 2, 195), 0);
        Due.due("33 a CAN in a CHURN there", x.share(2, 2, 195), 7);
    }

    /** "what is left over goes, a penny each, to those with the greatest that was cut off, of like ones the least numbers" */
    private static void pennies() {
        for (int pence : new int[] {0, 1, 2, 19, 20, 21, 39, 40, 41, 999999, 1000000}) {
            CountyCream x = withMilk(20);
            passed(x, "1", 7);
            x.box(0);
            x.sell(0, pence, 8);
            for (int farm = 0; farm < 20; farm++) {
                Due.due("32 pence " + pence + " of farm " + farm, x.pay(1, farm, 8), pence / 20 + (farm < pence % 20 ? 1 : 0));
            }
            Due.due("32 not known", x.pay(1, 0, 7), 0);
        }
    }

    private static void expectPay(String line, int pence, long... due) {
        CountyCream x = withMilk(due.length);
        passed(x, line, 7);
        x.box(0);
        x.sell(0, pence, 8);
        for (int farm = 0; farm < due.length; farm++) {
            Due.due("32 " + line + ", " + pence + " pence, farm " + farm, x.pay(1, farm, 195), due[farm]);
        }
    }

    private static void greatestCutOff() {
        // SHARES 1, 2, 3 of 6: 10 pence are 1.67, 3.33, 5; 11 are 1.83, 3.67, 5.5; 9 are 1.5, 3, 4.5; 7 are 1.17, 2.33, 3.5
        expectPay("w", 10, 2, 3, 5);
        expectPay("w", 11, 2, 4, 5);
        expectPay("w", 9, 2, 3, 4);
        expectPay("w", 7, 1, 2, 4);
        expectPay("w", 6, 1, 2, 3);
        expectPay("w", 1, 0, 0, 1);
        expectPay("w", 2, 0, 1, 1);
        expectPay("4-w", 9, 5, 3, 1);
        // SHARES 0, 1, 1: the penny goes to none who has no SHARE
        expectPay("w>1", 1, 0, 1, 0);
        expectPay("w>1", 3, 0, 2, 1);
        expectPay("w<3", 3, 2, 1, 0);
        // One has all, and nothing is left over
        expectPay("w=2", 999983, 0, 999983, 0);
        expectPay("w", 5, 5);
        // SHARES 3 and 3 and 1 of 7: 3 pence are 1.29, 1.29, 0.43
        expectPay("w=3?1:3", 3, 1, 1, 1);
        // 5 pence are 2.14, 2.14, 0.71; 4 are 1.71, 1.71, 0.57
        expectPay("w=3?1:3", 5, 2, 2, 1);
        expectPay("w=3?1:3", 4, 2, 2, 0);
    }

    /** The most pence by the greatest SHARES are more than an int holds, on the way and in all. */
    private static void moreThanAnInt() {
        long[][] due = {{33333334, 33333333, 33333333}, {100000000, 0, 0}, {50000000, 25000000, 25000000}};
        String[] lines = {"1000*1000*1000", "w=1?1000*1000*1000:w=2", "w=1?999999*1000+1000:5*100000*1000"};
        for (int i = 0; i < lines.length; i++) {
            CountyCream x = withMilk(3);
            passed(x, lines[i], 7);
            for (int box = 0; box < 100; box++) x.sell(x.box(0), 1000000, 8);
            Due.due("31 the most", x.money(1, 195), 100000000L);
            for (int farm = 0; farm < 3; farm++) Due.due("32 " + lines[i] + ", farm " + farm, x.pay(1, farm, 195), due[i][farm]);
        }
    }

    /** "nobody gets any, if all SHARES are 0." */
    private static void nobodyGetsAny() {
        expectPay("0", 100, 0, 0, 0);
        expectPay("-w", 100, 0, 0, 0);
        expectPay("1/0", 100, 0, 0, 0);
        expectPay("w/100", 100, 0, 0, 0);
        CountyCream x = new CountyCream();
        x.farm(1, 1, 1, true);
        x.churn(7, 55);
        x.sell(x.box(0), 100, 7);
        Due.due("32 no CANS", x.pay(1, 0, 195), 0);
        x.fill(0, x.can(0, 7, 1));
        Due.due("32 one CAN", x.pay(1, 0, 195), 100);
        x.test(0, 7, 0, 0, 9);
        Due.due("32 FAT 0, not known", x.pay(1, 0, 8), 100);
        Due.due("32 FAT 0", x.pay(1, 0, 9), 0);
    }
}
