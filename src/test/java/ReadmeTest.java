import java.lang.reflect.Method;
import java.lang.reflect.Modifier;
import java.nio.file.Files;
import java.nio.file.Path;
import java.util.regex.Matcher;
import java.util.regex.Pattern;

/** README.md keeps to the class: its example answers as it says, and its table has every call of the face. */
public final class ReadmeTest {
    private static final Pattern CALL = Pattern.compile("x\\.(\\w+)\\(([-0-9, ]*)\\); *// (-?[0-9]+)\\b.*");

    private static int wrong = 0;

    public static void main(String[] args) throws Exception {
        String readme = Files.readString(Path.of("README.md"));
        example(readme);
        table(readme);
        System.out.println(wrong == 0 ? "readme: all as due" : "readme: " + wrong + " faults");
        if (wrong != 0) {
            System.exit(1);
        }
    }

    private static void due(boolean holds, String what) {
        if (!holds) {
            wrong++;
            System.out.println("readme: " + what);
        }
    }

    private static void example(String readme) throws Exception {
        PowerShares x = new PowerShares();
        int calls = 0;
        for (String line : readme.split("\n")) {
            if (line.startsWith("x.")) {
                Matcher m = CALL.matcher(line);
                due(m.matches(), "a line of the example without its answer: " + line);
                if (m.matches()) {
                    long got = answer(x, m.group(1), m.group(2));
                    due(got == Long.parseLong(m.group(3)), line + ": answered " + got);
                    calls++;
                }
            }
        }
        due(calls >= 10, "the example has only " + calls + " calls");
    }

    private static long answer(PowerShares x, String name, String list) throws Exception {
        String[] parts = list.isBlank() ? new String[0] : list.split(",");
        Object[] values = new Object[parts.length];
        Class<?>[] types = new Class<?>[parts.length];
        for (int k = 0; k < parts.length; k++) {
            values[k] = Integer.parseInt(parts[k].trim());
            types[k] = int.class;
        }
        return ((Number) PowerShares.class.getMethod(name, types).invoke(x, values)).longValue();
    }

    private static void table(String readme) {
        for (Method m : PowerShares.class.getDeclaredMethods()) {
            if (Modifier.isPublic(m.getModifiers())) {
                due(isInTable(readme, m), "the table has no " + m);
            }
        }
    }

    private static boolean isInTable(String readme, Method m) {
        Matcher row = Pattern.compile("`" + m.getName() + "\\(([a-z, ]*)\\)`").matcher(readme);
        while (row.find()) {
            int many = row.group(1).isBlank() ? 0 : row.group(1).split(",").length;
            if (many == m.getParameterCount()) {
                return true;
            }
        }
        return false;
    }
}
