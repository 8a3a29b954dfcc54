import java.lang.reflect.Method;
import java.util.ArrayList;
import java.util.HashMap;
import java.util.List;
import java.util.Map;
import java.util.Random;

/** Long runs of mixed calls, each answer compared with that of NaiveCream. The seeds are fixed: each run comes again. */
public final class OracleTest {
    /**
     * A call and what its arguments are: F C T H B M R L X a number of a farm, can, test, churn, box, motion, cream,
     * loan, text; d a day, k a day as known, w a week, b a truth, a..b a range.
     */
    private static final String[] CALLS = {
        "farm 90..110 90..110 0..60 b", "farm 0..200 0..200 0..60 b", "change F 0..60 b", "can F d 1..1000",
        "test F d 0..3 0..1000 later", "test F d 0..3 300..420 later", "test F d 0..3 -7..-7 later", "test F d 0..3 0..1000 d",
        "right T 0..1000 k", "right T 250..450 k",
        "bias 0..3 -50..50", "period 1..28", "rate T k", "canRate C k", "fat F w k",
        "churn d 40..80", "fill H C", "about H k 0..6", "out H 0..300000000", "out H near", "box H",
        "sell B 0..1000000 k", "sell B 0..20 k", "grade B 0..1 0..100", "lean", "lot H 0..3", "lead H F k",
        "write X 0..127", "erase X", "fault X", "tells X F w k", "motion X d b", "vote M F -1..1", "vote M F 1..1", "tear M b",
        "motionAt M 0..4", "force d", "money w k", "pay w F k", "pay w F k", "share w F k",
        "watered F w k", "sour 1..2000", "sour 1..400", "route set", "routeAt set 0..8", "cream 1..1000000 40..80 0..9",
        "cream 1..300 50..60 0..2", "cream 100..100 55..57 0..1", "drain", "together 1..5", "heap 1..5 R",
        "gives 0..51 0..500", "calved F -51..27 1..60", "calved F 0..27 1..60", "foretold F w", "site 90..110 90..110 0..3000",
        "site 0..200 0..200 0..1000000", "freight 0..100", "open 0..1", "nearest F sites", "loan 1..1000000 0..100 1..100000",
        "loan 1..3000 0..100 1..300", "owed L 0..1000", "owed L 0..30", "ends L", "image 0..1", "from 0..1",
        "count 0..9", "digest",
    };
    /** What a run does more often than all else, so that its parts grow dense enough to touch. */
    private static final String[] LEANINGS = {
        "", "can test right churn fill about fat canRate rate lead out", "can churn fill fill box sell pay share money lead",
        "can churn fill fill box sell pay share tells motion vote force tear test change", "motion vote force tear change motionAt",
        "test right bias rate canRate watered", "test watered right", "cream together heap drain", "route routeAt sour",
        "box grade lean lot churn", "site open nearest freight", "loan owed ends", "calved gives foretold",
        "image from digest count can cream site loan gives",
    };
    private static final String SIGNS = "wfnotmcr0123456789()()!-+*/<>=|&?:  xyz,";
    private static final Map<String, Method> OURS = methodsOf(CountyCream.class);
    private static final Map<String, Method> NAIVE = methodsOf(NaiveCream.class);

    private final Random random;
    private final CountyCream ours = new CountyCream();
    private final NaiveCream naive = new NaiveCream();
    private final StringBuilder told = new StringBuilder();
    private final int lastDay;
    private final int farms;
    private int calls = 0;
    private boolean wrong = false;

    private OracleTest(long seed) {
        random = new Random(seed);
        lastDay = new int[] {6, 9, 13, 20, 34, 195}[random.nextInt(6)];
        farms = new int[] {1, 2, 3, 4, 6, 9, 25}[random.nextInt(7)];
    }

    private static Map<String, Method> methodsOf(Class<?> type) {
        Map<String, Method> map = new HashMap<>();
        for (Method m : type.getDeclaredMethods()) {
            if (java.lang.reflect.Modifier.isPublic(m.getModifiers())) map.put(m.getName(), m);
        }
        return map;
    }

    private int between(int a, int b) {
        return a + random.nextInt(b - a + 1);
    }

    private int number(int least, int most) {
        int dice = random.nextInt(400);
        if (dice < 12) return least;
        if (dice < 24) return most;
        if (dice < 27) return least - 1;
        if (dice < 30) return most + 1;
        if (dice == 31) return Integer.MAX_VALUE;
        if (dice == 32) return Integer.MIN_VALUE;
        return most < least ? least : between(least, most);
    }

    private int one(int countOf) {
        return number(0, naive.count(countOf) - 1);
    }

    private int bits(int many, int most) {
        if (random.nextInt(40) == 0) return number(0, (1 << many) - 1);
        int set = 0;
        for (int i = 0; i < most && many > 0; i++) set |= 1 << random.nextInt(many);
        return set;
    }

    private Object argument(String kind, Object[] before) {
        switch (kind) {
            case "F": return one(0);
            case "C": return one(1);
            case "T": return one(2);
            case "H": return one(3);
            case "B": return one(4);
            case "M": return one(5);
            case "R": return one(6);
            case "L": return one(9);
            case "X": return number(0, random.nextInt(3) == 0 ? 5 : 1);
            case "d": return random.nextInt(30) == 0 ? number(0, 195) : number(0, lastDay);
            case "k": return random.nextInt(3) == 0 ? number(0, lastDay) : number(lastDay, Math.min(195, lastDay + 3));
            case "later": return number((Integer) before[1], Math.min(195, (Integer) before[1] + random.nextInt(9)));
            case "w": return random.nextInt(30) == 0 ? number(0, 27) : number(0, lastDay / 7);
            case "b": return random.nextInt(3) != 0;
            case "set": return bits(naive.count(0), random.nextInt(60) == 0 ? 9 : random.nextInt(6));
            case "sites": return bits(naive.count(8), 4);
            case "near": return nearButter((Integer) before[0]);
            default:
                String[] ends = kind.split("\\.\\.");
                return number(Integer.parseInt(ends[0]), Integer.parseInt(ends[1]));
        }
    }

    private int nearButter(int churn) {
        long butter = naive.about(churn, lastDay, 3);
        if (butter < 0) return 0;
        return (int) (butter + (random.nextBoolean() ? 1 : -1) * (butter * 20 / 1000 + between(-1, 1)));
    }

    private void call(String name, Object... arguments) {
        if (calls >= 512 || wrong) return;
        calls++;
        try {
            long got = ((Number) OURS.get(name).invoke(ours, arguments)).longValue();
            long want = ((Number) NAIVE.get(name).invoke(naive, arguments)).longValue();
            told.append(name).append(java.util.Arrays.toString(arguments)).append(" -> ").append(got).append('\n');
            if (got != want) {
                wrong = true;
                System.out.println(told + "due is " + want);
            }
            Due.due(name, got, want);
        } catch (ReflectiveOperationException e) {
            throw new IllegalStateException(name, e);
        }
    }

    private void callOf(String line) {
        String[] parts = line.split(" ");
        Object[] arguments = new Object[parts.length - 1];
        for (int i = 0; i < arguments.length; i++) arguments[i] = argument(parts[i + 1], arguments);
        call(parts[0], arguments);
    }

    private String value(int depth) {
        String c = joined(1, depth);
        return random.nextInt(5) == 0 ? c + "?" + value(depth + 1) + ":" + value(depth + 1) : c;
    }

    private String joined(int rank, int depth) {
        if (rank == 6) return unit(depth);
        String signs = new String[] {"", "|", "&", "<>=", "+-", "*/"}[rank];
        StringBuilder made = new StringBuilder(joined(rank + 1, depth));
        int more = random.nextInt(depth > 3 ? 12 : 4) == 0 ? (rank == 3 ? 1 : between(1, 2)) : 0;
        for (int i = 0; i < more; i++) {
            made.append(signs.charAt(random.nextInt(signs.length()))).append(joined(rank + 1, depth));
        }
        return made.toString();
    }

    private String unit(int depth) {
        int dice = random.nextInt(20);
        if (dice < 2) return "!" + unit(depth);
        if (dice < 4) return "-" + unit(depth);
        if (dice < 8 && depth < 5) return "(" + value(depth + 1) + ")";
        if (dice < 9) return " " + unit(depth) + " ";
        if (dice < 11) return "0";
        if (dice < 14) return "" + between(0, random.nextBoolean() ? 3 : 1100000);
        return "" + "wfnotmcr".charAt(random.nextInt(8));
    }

    private void writeText() {
        int text = random.nextInt(2);
        StringBuilder line = new StringBuilder(value(0));
        for (int i = 0; i < 9 && line.length() > 30; i++) line = new StringBuilder(value(2));
        if (random.nextInt(4) == 0 && line.length() > 0) {
            line.setCharAt(random.nextInt(line.length()), SIGNS.charAt(random.nextInt(SIGNS.length())));
        }
        if (random.nextInt(25) == 0) line.insert(0, "((((((((".substring(random.nextInt(8)));
        if (random.nextInt(25) == 0) line.insert(0, "!-!-!-");
        call("erase", text);
        for (int i = 0; i < line.length(); i++) call("write", text, (int) line.charAt(i));
        call("fault", text);
        for (int i = 0; i < 3; i++) callOf("tells " + text + ".." + text + " F w d");
    }

    private String lineOf(String[] leaning) {
        if (leaning.length < 2 || random.nextInt(5) == 0) return CALLS[random.nextInt(CALLS.length)];
        String name = leaning[random.nextInt(leaning.length)];
        List<String> lines = new ArrayList<>();
        for (String line : CALLS) if (line.split(" ")[0].equals(name)) lines.add(line);
        return lines.get(random.nextInt(lines.size()));
    }

    private boolean isRare(String name) {
        if (name.equals("drain") || name.equals("from")) return true;
        if (name.equals("farm")) return naive.count(0) >= farms;
        return name.equals("cream") && naive.count(6) >= 7;
    }

    private void run() {
        for (int i = random.nextInt(6); i > 0; i--) callOf("farm 90..110 90..110 0..60 b");
        String[] leaning = LEANINGS[random.nextInt(LEANINGS.length)].split(" ");
        int writes = 0;
        while (calls < 512 && !wrong) {
            String line = lineOf(leaning);
            String name = line.split(" ")[0];
            if ((name.equals("write") || name.equals("motion")) && writes < 3) {
                writes++;
                writeText();
            }
            if (!isRare(name) || random.nextInt(15) == 0) callOf(line);
        }
    }

    public static void main(String[] args) {
        int from = args.length > 2 ? Integer.parseInt(args[1]) : 0;
        int to = args.length > 2 ? Integer.parseInt(args[2]) : 400;
        for (int seed = from; seed < to; seed++) new OracleTest(seed).run();
        Due.end();
    }
}
