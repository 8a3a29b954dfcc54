import java.util.HashSet;
import java.util.Set;

/** Promises 24 and 25 for every short TEXT, not for chosen ones alone. */
public final class EveryTextTest {
    private static final String FEW_SIGNS = "1(!<?:)+";
    private static final String SIGNS = "0w2 (!-)+/<=?:|&";
    private static final int LONGEST_WHOLE = 7, LONGEST_TRIED = 3, LONGEST_COMPARED = 4;

    private static final CountyCream OURS = new CountyCream();
    private static final NaiveCream NAIVE = new NaiveCream();
    private static final Set<String> BEGINNINGS = new HashSet<>();

    public static void main(String[] args) {
        gatherBeginnings("");
        tryBeginnings("");
        OURS.farm(100, 100, 5, true);
        NAIVE.farm(100, 100, 5, true);
        compare("");
        Due.end();
    }

    private static int faultOf(String line) {
        OURS.erase(0);
        for (int i = 0; i < line.length(); i++) OURS.write(0, line.charAt(i));
        return OURS.fault(0);
    }

    /** What begins any TEXT without FAULT that is short enough. */
    private static void gatherBeginnings(String line) {
        if (!line.isEmpty() && faultOf(line) == CountyCream.NONE) {
            for (int end = 0; end <= LONGEST_TRIED && end <= line.length(); end++) BEGINNINGS.add(line.substring(0, end));
        }
        if (line.length() == LONGEST_WHOLE) return;
        for (char sign : FEW_SIGNS.toCharArray()) gatherBeginnings(line + sign);
    }

    /**
     * "the first character that can not stand there": the first with which no TEXT without FAULT begins. What is begun
     * with three characters can be ended with four more, so the beginnings are all there.
     */
    private static void tryBeginnings(String line) {
        int fault = faultOf(line);
        int place = 0;
        while (place < line.length() && BEGINNINGS.contains(line.substring(0, place + 1))) place++;
        if (fault != CountyCream.NONE || place < line.length()) Due.due("24 fault of " + line, fault, 10 * place + 1);
        if (line.length() == LONGEST_TRIED) return;
        for (char sign : FEW_SIGNS.toCharArray()) tryBeginnings(line + sign);
    }

    private static void compare(String line) {
        Due.due("24 fault of " + line, OURS.fault(1), NAIVE.fault(1));
        Due.due("25 " + line, OURS.tells(1, 0, 0, 0), NAIVE.tells(1, 0, 0, 0));
        if (line.length() == LONGEST_COMPARED) return;
        for (char sign : SIGNS.toCharArray()) {
            OURS.erase(1);
            NAIVE.erase(1);
            String longer = line + sign;
            for (int i = 0; i < longer.length(); i++) {
                OURS.write(1, longer.charAt(i));
                NAIVE.write(1, longer.charAt(i));
            }
            compare(longer);
        }
    }
}
