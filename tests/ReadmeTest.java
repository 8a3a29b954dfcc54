import java.lang.reflect.Method;
import java.nio.file.Files;
import java.nio.file.Path;
import java.util.regex.Matcher;
import java.util.regex.Pattern;

/** Makes the calls that README.md shows: each answers what is written behind it. */
public final class ReadmeTest {
    private static final Pattern SHOWN = Pattern.compile("county\\.(\\w+)\\((.*)\\);\\s*// (-?\\d+)(?:$|:.*)");

    public static void main(String[] args) throws Exception {
        CountyCream county = new CountyCream();
        for (String line : Files.readString(Path.of("README.md")).split("\n")) {
            if (!line.startsWith("county.")) continue;
            Matcher shown = SHOWN.matcher(line);
            Due.due("can be read: " + line, shown.matches());
            if (shown.matches()) Due.due(line, answer(county, shown.group(1), shown.group(2)), Long.parseLong(shown.group(3)));
        }
        Due.end();
    }

    private static long answer(CountyCream county, String name, String told) throws Exception {
        for (Method m : CountyCream.class.getDeclaredMethods()) {
            if (!m.getName().equals(name)) continue;
            String[] parts = told.split(", ");
            Object[] arguments = new Object[m.getParameterCount()];
            for (int i = 0; i < arguments.length; i++) arguments[i] = argument(parts[i]);
            return ((Number) m.invoke(county, arguments)).longValue();
        }
        throw new IllegalStateException("no call " + name);
    }

    private static Object argument(String told) {
        if (told.equals("true") || told.equals("false")) return Boolean.valueOf(told);
        if (told.equals("CountyCream.LAST")) return CountyCream.LAST;
        if (told.startsWith("'")) return (int) told.charAt(1);
        return Integer.valueOf(told);
    }
}
