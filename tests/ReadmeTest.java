import java.io.IOException;
import java.lang.reflect.Method;
import java.lang.reflect.Modifier;
import java.nio.file.Files;
import java.nio.file.Path;
import java.util.HashSet;
import java.util.Set;
import java.util.regex.Matcher;
import java.util.regex.Pattern;

/** The example of README.md: each of its lines is called, and must answer what stands behind it. */
public final class ReadmeTest {
    private static final Pattern TOLD = Pattern.compile("tell\\(x, (\\d), \"([^\"]*)\"\\); +// (-?\\d+): .*");
    private static final Pattern CALL = Pattern.compile("x\\.(\\w+)\\(([^()]*)\\); +// (-?\\d+|true|false): .*");

    public static void main(String[] args) throws Exception {
        CrustMarket x = new CrustMarket();
        int lines = 0;
        for (String line : Files.readAllLines(Path.of("README.md"))) {
            Matcher told = TOLD.matcher(line);
            Matcher call = CALL.matcher(line);
            if (told.matches()) {
                int got = Check.tell(x, Integer.parseInt(told.group(1)), told.group(2));
                Check.due("README: " + line, got, Integer.parseInt(told.group(3)));
                lines++;
            } else if (call.matches()) {
                String got = answer(x, call.group(1), call.group(2));
                Check.due("README: " + line + " (" + got + ")", got.equals(call.group(3)), true);
                lines++;
            }
        }
        Check.due("README: lines of the example", lines, 22);
        allCallsAreNamed();
        Check.finish("ReadmeTest");
    }

    private static String answer(CrustMarket x, String name, String numbers) throws Exception {
        String[] given = numbers.isEmpty() ? new String[0] : numbers.split(", ");
        for (Method method : CrustMarket.class.getMethods()) {
            if (method.getName().equals(name) && method.getParameterCount() == given.length) {
                Object[] values = new Object[given.length];
                for (int i = 0; i < given.length; i++) {
                    boolean isFlag = method.getParameterTypes()[i] == boolean.class;
                    values[i] = isFlag ? (Object) Boolean.valueOf(given[i]) : (Object) Integer.valueOf(given[i]);
                }
                return String.valueOf(method.invoke(x, values));
            }
        }
        return "no such call";
    }

    private static void allCallsAreNamed() throws IOException {
        Set<String> named = new HashSet<>();
        Matcher word = Pattern.compile("`(\\w+)[`(]").matcher(Files.readString(Path.of("README.md")));
        while (word.find()) {
            named.add(word.group(1));
        }
        for (Method method : CrustMarket.class.getDeclaredMethods()) {
            boolean ofTheFace = Modifier.isPublic(method.getModifiers());
            Check.due("README names " + method.getName(), !ofTheFace || named.contains(method.getName()), true);
        }
    }
}
