import java.lang.management.ManagementFactory;
import java.lang.reflect.Array;
import java.lang.reflect.Constructor;
import java.lang.reflect.Field;
import java.lang.reflect.Method;
import java.lang.reflect.Modifier;
import java.nio.file.Files;
import java.nio.file.Path;
import java.util.ArrayList;
import java.util.HashSet;
import java.util.IdentityHashMap;
import java.util.List;
import java.util.Map;
import java.util.Set;

/** What ../shared/LANGUAGE.md asks of the program and a machine can look at; the promise of each call's face too. */
public final class LanguageTest {
    private static final String FACE = "int farm(int,int,int,boolean);int change(int,int,boolean);int can(int,int,int);"
        + "int test(int,int,int,int,int);int right(int,int,int);int bias(int,int);int period(int);int rate(int,int);"
        + "int canRate(int,int);long fat(int,int,int);int churn(int,int);int fill(int,int);long about(int,int,int);"
        + "int out(int,int);int box(int);int sell(int,int,int);int grade(int,int,int);int lean();int lot(int,int);"
        + "long lead(int,int,int);int write(int,int);int erase(int);int fault(int);long tells(int,int,int,int);"
        + "int motion(int,int,boolean);int vote(int,int,int);int tear(int,boolean);int motionAt(int,int);int force(int);"
        + "long money(int,int);long pay(int,int,int);long share(int,int,int);int watered(int,int,int);int sour(int);"
        + "int route(int);int routeAt(int,int);int cream(int,int,int);int drain();long together(int);int heap(int,int);"
        + "int gives(int,int);int calved(int,int,int);int foretold(int,int);int site(int,int,int);int freight(int);"
        + "long open(int);int nearest(int,int);int loan(int,int,int);long owed(int,int);int ends(int);int image(int);"
        + "int from(int);int count(int);long digest();";
    private static final String[] FORBIDDEN = {
        "package", "throw", "throws", "try", "catch", "synchronized", "assert", "native", "volatile", "transient", "strictfp",
        "protected", "String", "Object", "Thread", "System.out", "System.exit", "currentTimeMillis", "nanoTime", "Random",
        "equals", "hashCode", "toString", "Exact", "MAX_VALUE", "MIN_VALUE", "instanceof", "var", "yield",
    };

    public static void main(String[] args) throws Exception {
        String source = Files.readString(Path.of(args.length > 0 ? args[0] : "src/main/java/CountyCream.java"));
        for (int i = 0; i < source.length(); i++) {
            if (source.charAt(i) > 126) Due.due("sign at " + i, source.charAt(i), 0);
        }
        words(withoutComments(source));
        constants();
        face();
        for (Class<?> type : classes()) shape(type);
        room();
        noNewObjects();
        Due.end();
    }

    private static String withoutComments(String source) {
        return source.replaceAll("(?s)/\\*.*?\\*/", " ").replaceAll("//[^\n]*", " ").replaceAll("'[^']'", "0");
    }

    private static void words(String code) {
        for (String word : FORBIDDEN) {
            String found = "(?s).*(?<![A-Za-z0-9_])" + word.replace(".", "\\.") + "(?![A-Za-z0-9_]).*";
            Due.due("the word " + word, !code.matches(found));
        }
        Due.due("no lambda", !code.contains("->") && !code.contains("::"));
        Due.due("imports", code.replaceAll("import java\\.util\\.Arrays;", "").contains("import") ? 1 : 0, 0);
        for (String line : code.split("\n")) Due.due("length of " + line, line.length() <= 120);
        Due.due("no tabs", !code.contains("\t"));
    }

    private static void constants() {
        Due.due("NONE", CountyCream.NONE, -1);
        Due.due("BAD", CountyCream.BAD, -2);
        Due.due("NO", CountyCream.NO, -3);
        Due.due("FULL", CountyCream.FULL, -4);
        Due.due("LAST", CountyCream.LAST, -7);
    }

    private static String signature(Method m) {
        List<String> kinds = new ArrayList<>();
        for (Class<?> p : m.getParameterTypes()) kinds.add(p.getName());
        return m.getReturnType().getName() + " " + m.getName() + "(" + String.join(",", kinds) + ")";
    }

    private static void face() {
        Class<?> type = CountyCream.class;
        Due.due("public final", type.getModifiers(), Modifier.PUBLIC | Modifier.FINAL);
        Set<String> want = new HashSet<>(List.of(FACE.split(";")));
        Set<String> got = new HashSet<>();
        for (Method m : type.getDeclaredMethods()) {
            if (Modifier.isPublic(m.getModifiers())) got.add(signature(m));
            else Due.due("private " + m.getName(), Modifier.isPrivate(m.getModifiers()));
        }
        Due.due("face, as told: " + got, got.equals(want));
        Due.due("methods", want.size(), 54);
        Set<String> fields = new HashSet<>();
        for (Field f : type.getDeclaredFields()) {
            if (Modifier.isPublic(f.getModifiers())) fields.add(f.getName());
            else Due.due("private " + f.getName(), Modifier.isPrivate(f.getModifiers()));
        }
        Due.due("constants", fields.equals(Set.of("NONE", "BAD", "NO", "FULL", "LAST")));
        Constructor<?>[] made = type.getDeclaredConstructors();
        Due.due("one constructor", made.length == 1 && made[0].getParameterCount() == 0 && Modifier.isPublic(made[0].getModifiers()));
    }

    private static List<Class<?>> classes() {
        List<Class<?>> all = new ArrayList<>(List.of(CountyCream.class.getDeclaredClasses()));
        all.add(CountyCream.class);
        Due.due("some twelve classes", all.size() <= 12);
        return all;
    }

    private static void shape(Class<?> type) {
        boolean outer = type == CountyCream.class;
        Due.due("static " + type, outer || Modifier.isStatic(type.getModifiers()) && !Modifier.isPublic(type.getModifiers()));
        Set<String> face = new HashSet<>();
        for (Method m : CountyCream.class.getMethods()) face.add(m.getName());
        int fields = 0;
        for (Field f : type.getDeclaredFields()) {
            if (Modifier.isStatic(f.getModifiers())) Due.due("final " + f, Modifier.isFinal(f.getModifiers()));
            else fields++;
        }
        Due.due("fields of " + type + ": " + fields, fields <= 20);
        for (Method m : type.getDeclaredMethods()) {
            Due.due("parameters of " + m, m.getParameterCount() <= 7);
            if (!outer || Modifier.isPrivate(m.getModifiers())) Due.due("name of " + m, !face.contains(m.getName()));
        }
    }

    /** Objects and arrays of one house, and their fields and elements. */
    private static void room() throws Exception {
        Map<Object, Boolean> seen = new IdentityHashMap<>();
        long cells = cellsOf(new CountyCream(), seen);
        System.out.println("a new object: " + seen.size() + " objects and arrays, " + cells + " fields and elements");
        Due.due("room", seen.size() < 300 && cells < 40000);
    }

    private static long cellsOf(Object o, Map<Object, Boolean> seen) throws Exception {
        if (o == null || seen.put(o, true) != null) return 0;
        long cells = 0;
        if (o.getClass().isArray()) {
            cells = Array.getLength(o);
            if (o instanceof Object[]) for (Object e : (Object[]) o) cells += cellsOf(e, seen);
            return cells;
        }
        for (Field f : o.getClass().getDeclaredFields()) {
            if (Modifier.isStatic(f.getModifiers())) continue;
            f.setAccessible(true);
            cells++;
            if (!f.getType().isPrimitive()) cells += cellsOf(f.get(o), seen);
        }
        return cells;
    }

    private static long useAll(CountyCream x) {
        long h = 0;
        for (int i = 0; i < 9; i++) h += x.farm(100 + i, 100 - i, i, true);
        for (int i = 0; i < 40; i++) h += x.can(i % 9, i % 14, 10 + i) + x.test(i % 9, i % 14, i % 4, i % 3 == 0 ? -7 : 300 + i, i % 14);
        for (int i = 0; i < 9; i++) h += x.right(i, 300, 20) + x.churn(i + 5, 50) + x.fill(i, i) + x.out(i, i) + x.box(i) + x.sell(i, 99, 20);
        for (int i = 0; i < 9; i++) h += x.grade(i, i % 2, 50) + x.lot(i, 2) + x.about(i, 20, 4) + x.lead(i, i, 20) + x.fat(i, 0, 20);
        for (char c : "!(w>50)?-f/(n-1)|r:(o+t&m)*c".toCharArray()) h += x.write(0, c);
        h += x.fault(0) + x.motion(0, 3, true) + x.vote(0, 0, 1) + x.motionAt(0, 3) + x.force(9) + x.tear(0, true);
        for (int i = 0; i < 9; i++) h += x.tells(0, i, 1, 20) + x.share(1, i, 20) + x.pay(1, i, 20) + x.watered(i, 1, 20);
        h += x.money(1, 20) + x.sour(1000) + x.route(0xFF) + x.routeAt(0xFF, 3) + x.bias(0, 3) + x.period(9) + x.rate(0, 9) + x.canRate(0, 9);
        for (int i = 0; i < 10; i++) h += x.cream(1000 + i, 50 + i, i % 3);
        h += x.together(5) + x.heap(4, 3) + x.gives(3, 3) + x.calved(0, 3, 3) + x.foretold(0, 6) + x.lean();
        for (int i = 0; i < 6; i++) h += x.site(100, 100 + i, i) + x.loan(1000, 10, 20);
        h += x.freight(9) + x.open(0) + x.nearest(0, 63) + x.owed(0, 1000) + x.ends(0) + x.image(0) + x.erase(0) + x.from(0);
        return h + x.drain() + x.change(0, 1, true) + x.count(0) + x.digest();
    }

    private static void noNewObjects() {
        com.sun.management.ThreadMXBean bean = (com.sun.management.ThreadMXBean) ManagementFactory.getThreadMXBean();
        long me = Thread.currentThread().getId();
        CountyCream[] houses = new CountyCream[20];
        for (int i = 0; i < houses.length; i++) houses[i] = new CountyCream();
        long same = useAll(houses[0]);
        bean.getThreadAllocatedBytes(me);
        long before = bean.getThreadAllocatedBytes(me);
        long idle = bean.getThreadAllocatedBytes(me) - before;
        before = bean.getThreadAllocatedBytes(me);
        long other = useAll(houses[1]);
        long made = bean.getThreadAllocatedBytes(me) - before - idle;
        Due.due("the same answers", other, same);
        // The one text that useAll itself takes apart is all that may be made.
        Due.due("calls make no objects: " + made + " bytes", made < 400);
    }
}
