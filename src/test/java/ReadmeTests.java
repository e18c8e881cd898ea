import java.io.IOException;
import java.lang.reflect.Method;
import java.nio.file.Files;
import java.nio.file.Path;
import java.util.HashSet;
import java.util.Set;
import java.util.regex.Matcher;
import java.util.regex.Pattern;

/** What README.md says that the calls of its example answer is what they answer; no call is left out there. */
public final class ReadmeTests {
    private static final Pattern CALL = Pattern.compile(" {4}rail\\.(\\w+)\\((.*)\\); +// (-?[0-9]+): .*");

    public static void main(String[] args) throws IOException, ReflectiveOperationException {
        LoveLocks rail = new LoveLocks();
        Set<String> called = new HashSet<>();
        int rows = 0;
        int wrong = 0;
        for (String line : Files.readAllLines(Path.of("README.md"))) {
            Matcher call = CALL.matcher(line);
            if (call.matches()) {
                rows++;
                called.add(call.group(1));
                long got = answer(rail, call.group(1), call.group(2));
                if (got != Long.parseLong(call.group(3))) {
                    wrong++;
                    System.out.println("answered " + got + ":" + line);
                }
            } else if (line.startsWith("    rail.")) {
                wrong++;
                System.out.println("can't be read:" + line);
            }
        }
        for (Method m : LoveLocks.class.getMethods()) {
            if (m.getDeclaringClass() == LoveLocks.class && !called.contains(m.getName())) {
                wrong++;
                System.out.println("README.md does not call " + m.getName());
            }
        }
        System.out.println(wrong == 0 ? rows + " calls answer as README.md says" : wrong + " faults of README.md");
        if (wrong != 0) {
            System.exit(1);
        }
    }

    private static long answer(LoveLocks rail, String name, String told) throws ReflectiveOperationException {
        String[] texts = told.isEmpty() ? new String[0] : told.split(", ");
        for (Method m : LoveLocks.class.getMethods()) {
            if (m.getName().equals(name) && m.getParameterCount() == texts.length) {
                Object[] args = new Object[texts.length];
                for (int k = 0; k < args.length; k++) {
                    long v = Long.decode(texts[k].replace("L", ""));
                    args[k] = m.getParameterTypes()[k] == long.class ? (Object) v : (Object) (int) v;
                }
                return ((Number) m.invoke(rail, args)).longValue();
            }
        }
        throw new NoSuchMethodException(name + " of " + texts.length);
    }
}
