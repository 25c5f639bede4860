import java.io.IOException;
import java.lang.reflect.InvocationTargetException;
import java.lang.reflect.Method;
import java.lang.reflect.Modifier;
import java.nio.file.Files;
import java.nio.file.Path;
import java.util.Arrays;
import java.util.HashMap;
import java.util.Map;
import java.util.regex.Matcher;
import java.util.regex.Pattern;

/** README.md: the calls under "Use" answer what stands behind them, and its table names each call. */
public final class ReadmeTest {
    private static final Pattern CALL = Pattern.compile("link\\.(\\w+)\\((.*?)\\);\\s*// (true|false|-?\\d+): .*");

    private final Map<String, Method> face = new HashMap<>();
    private final HealLink link = new HealLink();

    private ReadmeTest() {
        for (Method m : HealLink.class.getDeclaredMethods()) {
            if (Modifier.isPublic(m.getModifiers())) {
                face.put(m.getName(), m);
            }
        }
    }

    public static void main(String[] args) throws IOException, ReflectiveOperationException {
        String text = Files.readString(Path.of("README.md"));
        String use = text.substring(text.indexOf("## Use"), text.indexOf("## How it is built"));
        ReadmeTest test = new ReadmeTest();
        test.answers(use);
        test.table(use);
        Due.close("ReadmeTest");
    }

    private void answers(String use) throws ReflectiveOperationException {
        int calls = 0;
        for (String line : use.split("\n")) {
            if (!line.startsWith("link.")) {
                continue;
            }
            Matcher m = CALL.matcher(line);
            Due.is(line + " tells its answer", m.matches(), true);
            if (m.matches()) {
                Due.is(m.group(1) + "(" + m.group(2) + ")", call(m.group(1), m.group(2)), m.group(3));
                calls++;
            }
        }
        Due.is("README.md shows calls", calls > 0, true);
    }

    private String call(String name, String args) throws ReflectiveOperationException {
        Method m = face.get(name);
        if (m == null) {
            return "no such call";
        }
        String[] words = args.isEmpty() ? new String[0] : args.split(",\\s*");
        Object[] values = new Object[words.length];
        for (int i = 0; i < words.length; i++) {
            Class<?> type = m.getParameterTypes()[i];
            if (type == boolean.class) {
                values[i] = Boolean.valueOf(words[i]);
            } else if (type == long.class) {
                values[i] = Long.decode(words[i].replace("L", ""));
            } else {
                values[i] = Integer.valueOf(words[i]);
            }
        }
        try {
            return m.invoke(link, values).toString();
        } catch (InvocationTargetException e) {
            return "throws " + e.getCause();
        }
    }

    private void table(String use) {
        StringBuilder named = new StringBuilder(" ");
        for (String line : use.split("\n")) {
            if (line.startsWith("| `")) {
                named.append(line.substring(0, line.indexOf('|', 1)).replaceAll("\\W+", " "));
            }
        }
        String[] names = face.keySet().toArray(new String[0]);
        Arrays.sort(names);
        for (String name : names) {
            Due.is("the table names " + name, named.indexOf(" " + name + " ") >= 0, true);
        }
    }
}
