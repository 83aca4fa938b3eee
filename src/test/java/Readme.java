import java.io.IOException;
import java.lang.reflect.Method;
import java.nio.file.Files;
import java.nio.file.Path;
import java.util.regex.Matcher;
import java.util.regex.Pattern;

/** README.md tells the truth: its example gives the answers that stand beside it, and it names every call. */
public final class Readme {
    private static final Pattern FED = Pattern.compile("feed\\(x, \"([^\"]*)\"\\);");
    private static final Pattern CALL = Pattern.compile("x\\.(\\w+)\\(([-0-9, ]*)\\); +// (-?\\d+).*");

    private static int wrong = 0;

    public static void main(String[] args) throws IOException, ReflectiveOperationException {
        String readme = Files.readString(Path.of("README.md"));
        example(readme);
        names(readme);
        if (wrong > 0) {
            System.exit(1);
        }
    }

    private static void complain(String what) {
        wrong++;
        System.out.println(what);
    }

    private static void example(String readme) throws ReflectiveOperationException {
        BasketRound x = new BasketRound();
        int made = 0;
        for (String line : readme.split("\n")) {
            Matcher fed = FED.matcher(line);
            Matcher call = CALL.matcher(line);
            if (fed.matches()) {
                for (char c : fed.group(1).toCharArray()) {
                    x.feed(c);
                }
            } else if (call.matches()) {
                made++;
                long got = answer(x, call.group(1), call.group(2));
                if (got != Long.parseLong(call.group(3))) {
                    complain("README.md: " + line + " but it answered " + got);
                }
            } else if (line.startsWith("x.")) {
                complain("README.md: no answer told: " + line);
            }
        }
        if (made == 0) {
            complain("README.md: no call of the example was found");
        }
    }

    private static long answer(BasketRound x, String name, String told) throws ReflectiveOperationException {
        String[] numbers = told.isEmpty() ? new String[0] : told.split(", *");
        Object[] values = new Object[numbers.length];
        Class<?>[] types = new Class<?>[numbers.length];
        for (int i = 0; i < numbers.length; i++) {
            values[i] = Integer.valueOf(numbers[i]);
            types[i] = int.class;
        }
        return ((Number) BasketRound.class.getMethod(name, types).invoke(x, values)).longValue();
    }

    private static void names(String readme) {
        for (Method m : BasketRound.class.getDeclaredMethods()) {
            boolean isFace = java.lang.reflect.Modifier.isPublic(m.getModifiers());
            if (isFace && !readme.contains("`" + m.getName() + "`")) {
                complain("README.md does not name " + m.getName());
            }
        }
    }
}
