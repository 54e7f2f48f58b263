import java.lang.reflect.Method;
import java.nio.file.Files;
import java.nio.file.Path;
import java.util.regex.Matcher;
import java.util.regex.Pattern;

/** The calls that README.md shows answer what it says behind them. */
public final class ReadmeTest {
    private static final Pattern CALL = Pattern.compile("^x\\.(\\w+)\\((.*)\\);\\s*// (\\w+)");

    public static void main(String[] args) throws Exception {
        Path readme = Path.of(args[0]).toAbsolutePath().normalize().resolve("../../../../README.md").normalize();
        FittingRings x = new FittingRings();
        int calls = 0;
        int wrong = 0;
        for (String line : Files.readAllLines(readme)) {
            Matcher m = CALL.matcher(line);
            if (m.find()) {
                calls++;
                long got = call(x, m.group(1), m.group(2));
                if (got != number(m.group(3))) {
                    wrong++;
                    System.out.println("answered " + got + ": " + line);
                }
            }
        }
        System.out.println(calls + " calls of README.md, " + wrong + " wrong");
        if (wrong != 0 || calls < 10) {
            System.exit(1);
        }
    }

    private static long call(FittingRings x, String name, String list) throws Exception {
        String[] given = list.isEmpty() ? new String[0] : list.split(", ");
        for (Method m : FittingRings.class.getMethods()) {
            if (m.getName().equals(name) && m.getParameterCount() == given.length) {
                Object[] values = new Object[given.length];
                for (int i = 0; i < given.length; i++) {
                    long v = number(given[i]);
                    values[i] = m.getParameterTypes()[i] == long.class ? (Object) v : (Object) (int) v;
                }
                return ((Number) m.invoke(x, values)).longValue();
            }
        }
        throw new IllegalStateException("no such call: " + name);
    }

    private static long number(String s) throws Exception {
        if (s.startsWith("0b")) {
            return Long.parseLong(s.substring(2), 2);
        }
        return s.matches("[A-Z]+") ? FittingRings.class.getField(s).getInt(null) : Long.parseLong(s);
    }
}
