import java.lang.reflect.Method;
import java.nio.file.Files;
import java.nio.file.Path;
import java.util.List;
import java.util.regex.Matcher;
import java.util.regex.Pattern;

// The calls of the example in README.md answer what stands first in the comment beside them.
public final class ReadmeTest {
    private static final Pattern CALL = Pattern.compile("x\\.(\\w+)\\(([-0-9, ]*)\\); +// (true|false|-?\\d+)(:.*)?");
    private static final int FEWEST_CALLS = 10;

    private static int wrong = 0;

    private static void fault(String text) {
        wrong++;
        System.out.println(text);
    }

    private static String answer(GridPolygons x, String name, String list) throws Exception {
        String[] arguments = list.isEmpty() ? new String[0] : list.split(", ");
        Class<?>[] types = new Class<?>[arguments.length];
        Object[] values = new Object[arguments.length];
        for (int i = 0; i < arguments.length; i++) {
            types[i] = int.class;
            values[i] = Integer.valueOf(arguments[i]);
        }
        Method method = GridPolygons.class.getMethod(name, types);
        return String.valueOf(method.invoke(x, values));
    }

    // The lines between the one that makes the object and the end of the block.
    private static List<String> example() throws Exception {
        List<String> lines = Files.readAllLines(Path.of("README.md"));
        int first = lines.indexOf("GridPolygons x = new GridPolygons();") + 1;
        List<String> rest = lines.subList(first, lines.size());
        return rest.subList(0, Math.max(0, rest.indexOf("```")));
    }

    public static void main(String[] args) throws Exception {
        GridPolygons x = new GridPolygons();
        List<String> calls = example();
        if (calls.size() < FEWEST_CALLS) {
            fault("README.md has an example of only " + calls.size() + " calls");
        }
        for (String line : calls) {
            Matcher call = CALL.matcher(line);
            if (!call.matches()) {
                fault("not a call with its answer: " + line);
                continue;
            }
            String got = answer(x, call.group(1), call.group(2));
            if (!got.equals(call.group(3))) {
                fault(line + ": answered " + got);
            }
        }
        System.out.println(wrong == 0 ? "the example is right" : wrong + " faults in the example");
        if (wrong != 0) {
            System.exit(1);
        }
    }
}
