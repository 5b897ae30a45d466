import java.lang.reflect.Method;
import java.lang.reflect.Modifier;
import java.nio.file.Files;
import java.nio.file.Path;
import java.util.ArrayList;
import java.util.HashMap;
import java.util.List;
import java.util.Map;
import java.util.regex.Matcher;
import java.util.regex.Pattern;

/** The README's example: its calls answer what stands behind them, and its table has every call. */
public final class LockLoomReadme {
    private static final Pattern CALL = Pattern.compile("(?:int (\\w+) = )?loom\\.(\\w+)\\((.*)\\); +// = (\\S+): .*");
    private static final String FIRST = "LockLoom loom = new LockLoom();";

    private final LockLoom loom = new LockLoom();
    private final Map<String, Integer> names = new HashMap<>();
    private int calls = 0;
    private int wrong = 0;

    public static void main(String[] args) throws Exception {
        LockLoomReadme readme = new LockLoomReadme();
        List<String> lines = Files.readAllLines(Path.of("README.md"));
        for (String line : example(lines)) {
            readme.follow(line);
        }
        readme.findCalls(lines);
        System.out.println(readme.calls + " calls of the example, " + readme.wrong + " faults");
        if (readme.wrong != 0 || readme.calls == 0) {
            System.exit(1);
        }
    }

    private static List<String> example(List<String> lines) {
        List<String> code = new ArrayList<>();
        int begin = lines.indexOf("```java");
        for (int i = begin + 1; begin >= 0 && !lines.get(i).equals("```"); i++) {
            code.add(lines.get(i));
        }
        return code;
    }

    private void follow(String line) throws ReflectiveOperationException {
        Matcher call = CALL.matcher(line);
        if (call.matches()) {
            Object got = answer(call.group(2), call.group(3));
            expect(got.toString().equals(call.group(4)), line + " answered " + got);
            if (call.group(1) != null) {
                names.put(call.group(1), (Integer) got);
            }
        } else {
            expect(line.isEmpty() || line.equals(FIRST), "no call with its answer: " + line);
        }
    }

    private Object answer(String name, String written) throws ReflectiveOperationException {
        String[] parts = written.isEmpty() ? new String[0] : written.split(", ");
        Class<?>[] types = new Class<?>[parts.length];
        Object[] numbers = new Object[parts.length];
        for (int i = 0; i < parts.length; i++) {
            types[i] = int.class;
            numbers[i] = names.containsKey(parts[i]) ? names.get(parts[i]) : Integer.valueOf(parts[i]);
        }
        calls++;
        return LockLoom.class.getMethod(name, types).invoke(loom, numbers);
    }

    private void findCalls(List<String> lines) {
        for (Method m : LockLoom.class.getDeclaredMethods()) {
            boolean isPublic = Modifier.isPublic(m.getModifiers());
            boolean told = lines.stream().anyMatch(line -> line.startsWith("| `" + m.getName() + "("));
            expect(told || !isPublic, "the table has no " + m.getName());
        }
    }

    private void expect(boolean holds, String fault) {
        if (!holds) {
            wrong++;
            System.out.println(fault);
        }
    }
}
