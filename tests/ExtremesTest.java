import java.lang.reflect.Method;
import java.util.Arrays;
import java.util.HashMap;
import java.util.Map;
import java.util.TreeMap;

/**
 * "No call may ever throw or fail to end, for any arguments in any state": each call with each mix of numbers at the
 * ends of int and at the ends that the document names, in an empty house and in one that holds a bit of all. What is
 * answered is compared with NaiveCream.
 */
public final class ExtremesTest {
    private static final Map<String, Method> OURS = methodsOf(CountyCream.class), NAIVE = methodsOf(NaiveCream.class);
    private static final int CALLS = 512;
    private static final int[] MANY = {
        Integer.MIN_VALUE, Integer.MIN_VALUE + 1, -1000001, -1000, -52, -51, -50, -8, -7, -2, -1, 0, 1, 2, 3, 4, 5, 6, 7, 8, 9, 10, 20, 27,
        28, 29, 39, 40, 50, 51, 52, 60, 61, 80, 81, 100, 101, 127, 128, 195, 196, 200, 201, 255, 256, 500, 511, 512, 1000, 1001, 2000,
        2001, 100000, 1000000, 1000001, 1 << 20, 300000000, 300000001, Integer.MAX_VALUE - 1, Integer.MAX_VALUE,
    };
    private static final int[] SOME = {
        Integer.MIN_VALUE, -52, -51, -8, -7, -1, 0, 1, 2, 5, 9, 27, 28, 60, 80, 195, 196, 1000, 1001, 1000000, Integer.MAX_VALUE,
    };
    private static final int[] FEW = {Integer.MIN_VALUE, -7, -1, 0, 1, 9, 27, 195, 1001, Integer.MAX_VALUE};
    private static final int[] FEWEST = {Integer.MIN_VALUE, -7, 0, 1, 20, Integer.MAX_VALUE};

    private static final String COUNTY = "farm 100 110 10 1;farm 90 100 20 1;farm 120 100 5 0;farm 0 200 60 1;test 0 2 0 400 2;"
        + "test 1 4 1 300 5;test 1 5 1 -7 5;test 0 190 2 1000 195;right 1 360 20;bias 1 10;can 0 3 100;can 1 3 100;can 1 8 50;"
        + "can 2 4 70;can 3 195 1000;churn 6 57;churn 9 50;churn 195 80;fill 0 0;fill 0 1;fill 2 4;out 0 72000;box 0;box 0;"
        + "box 1;box 2;sell 0 1001 10;sell 3 1000000 195;grade 0 0 90;grade 0 1 84;grade 1 1 7;write 0 119;write 1 119;write 1 43;"
        + "write 5 49;write 5 47;write 5 111;motion 0 5 0;motion 0 6 1;motion 5 189 1;vote 0 0 1;vote 1 1 1;vote 2 0 1;vote 2 1 1;"
        + "tear 1 1;cream 1000 55 0;cream 1000 65 2;cream 2000 55 0;gives 1 10;calved 0 3 5;calved 1 2 4;site 100 120 50;"
        + "site 120 100 900;loan 1000 10 110;loan 500 0 1;image 0";

    private CountyCream ours;
    private NaiveCream naive;
    private int calls = CALLS;
    private final boolean empty;

    private ExtremesTest(boolean empty) {
        this.empty = empty;
    }

    private static Map<String, Method> methodsOf(Class<?> type) {
        Map<String, Method> map = new HashMap<>();
        for (Method m : type.getDeclaredMethods()) {
            if (java.lang.reflect.Modifier.isPublic(m.getModifiers())) map.put(m.getName(), m);
        }
        return map;
    }

    private void begin() throws Exception {
        ours = new CountyCream();
        naive = new NaiveCream();
        calls = 0;
        if (empty) return;
        for (String line : COUNTY.split(";")) {
            String[] parts = line.split(" ");
            int[] numbers = new int[parts.length - 1];
            for (int i = 0; i < numbers.length; i++) numbers[i] = Integer.parseInt(parts[i + 1]);
            call(parts[0], numbers);
        }
    }

    private void call(String name, int[] numbers) throws Exception {
        Method m = OURS.get(name);
        Object[] put = new Object[numbers.length];
        for (int i = 0; i < put.length; i++) {
            put[i] = m.getParameterTypes()[i] == boolean.class ? (Object) (numbers[i] != 0) : (Object) numbers[i];
        }
        calls++;
        long want = ((Number) NAIVE.get(name).invoke(naive, put)).longValue();
        Due.due(name + Arrays.toString(numbers), ((Number) m.invoke(ours, put)).longValue(), want);
    }

    private void tryAll(String name, int[] numbers, int from) throws Exception {
        if (from < numbers.length) {
            boolean truth = OURS.get(name).getParameterTypes()[from] == boolean.class;
            int[][] lists = {MANY, MANY, MANY, SOME, FEW, FEWEST};
            for (int v : truth ? new int[] {0, 1} : lists[numbers.length]) {
                numbers[from] = v;
                tryAll(name, numbers, from + 1);
            }
            return;
        }
        if (calls >= CALLS) begin();
        call(name, numbers.clone());
    }

    /** Nothing is promised of what a call behind the 512th answers, but that it does not throw. */
    private static void behindTheLast() throws Exception {
        ExtremesTest test = new ExtremesTest(false);
        test.begin();
        for (int round = 0; round < 40; round++) {
            for (Map.Entry<String, Method> e : new TreeMap<>(OURS).entrySet()) {
                Class<?>[] kinds = e.getValue().getParameterTypes();
                Object[] put = new Object[kinds.length];
                for (int i = 0; i < put.length; i++) {
                    int v = (round + i) % 3 == 0 ? 0 : MANY[(round * 7 + i * 13) % MANY.length];
                    put[i] = kinds[i] == boolean.class ? (Object) (v > 0) : (Object) v;
                }
                e.getValue().invoke(test.ours, put);
            }
        }
        Due.due("behind the last call", test.ours.count(-1), -2);
    }

    public static void main(String[] args) throws Exception {
        for (boolean empty : new boolean[] {true, false}) {
            for (String name : new TreeMap<>(OURS).keySet()) {
                new ExtremesTest(empty).tryAll(name, new int[OURS.get(name).getParameterCount()], 0);
            }
        }
        behindTheLast();
        Due.end();
    }
}
