import java.lang.reflect.Method;
import java.nio.file.Files;
import java.nio.file.Path;
import java.util.ArrayList;
import java.util.Arrays;
import java.util.List;
import java.util.TreeSet;
import java.util.regex.Matcher;
import java.util.regex.Pattern;

/** What README.md shows holds: the answers of its examples, its lines of texts, its table of refusals. */
public final class ReadmeTest extends Due {
    private static final Pattern EXAMPLE = Pattern.compile("x\\.(\\w+)\\((.*)\\);\\s+// (-?\\d+|true|false|NONE)(:.*)?");
    private static final Pattern TEXT = Pattern.compile("\\| ([0-3]) \\| `([^`]*)` \\|");
    private static final Pattern REFUSAL = Pattern.compile("\\| (?:`(NONE|NONE - 99|NONE - 199|false)`.*|never refused) \\| (`.*`) \\|");

    public static void main(String[] args) throws Exception {
        List<String> page = Files.readAllLines(Path.of("README.md"));
        examples(page);
        texts(page);
        refusals(page);
        callsOfTheFace(page);
        finish("readme");
    }

    private static List<Method> face() {
        List<Method> all = new ArrayList<>();
        for (Method m : PillarSaints.class.getDeclaredMethods()) {
            if (java.lang.reflect.Modifier.isPublic(m.getModifiers())) {
                all.add(m);
            }
        }
        return all;
    }

    private static Method named(String name) {
        for (Method m : face()) {
            if (m.getName().equals(name)) {
                return m;
            }
        }
        throw new IllegalArgumentException("README.md tells of " + name + ", which there is not");
    }

    private static int answer(PillarSaints x, Method m, Object[] given) throws Exception {
        Object answer = m.invoke(x, given);
        return answer instanceof Boolean b ? (b ? 1 : 0) : (Integer) answer;
    }

    private static int number(String told) {
        switch (told) {
            case "true": return 1;
            case "false": return 0;
            case "NONE": return PillarSaints.NONE;
            case "NONE - 99": return PillarSaints.NONE - 99;
            case "NONE - 199": return PillarSaints.NONE - 199;
            default: return Integer.decode(told);
        }
    }

    private static Object[] given(Method m, String told) {
        String[] parts = told.isEmpty() ? new String[0] : told.split(", ");
        Object[] all = new Object[parts.length];
        for (int i = 0; i < parts.length; i++) {
            boolean flag = m.getParameterTypes()[i] == boolean.class;
            all[i] = flag ? (Object) Boolean.valueOf(parts[i]) : (Object) number(parts[i]);
        }
        return all;
    }

    private static void examples(List<String> page) throws Exception {
        by("README.md, an example");
        PillarSaints x = new PillarSaints();
        int shown = 0;
        for (String line : page) {
            if (!line.startsWith("x.")) {
                continue;
            }
            Matcher call = EXAMPLE.matcher(line);
            due("an example with its answer: " + line, call.matches(), true);
            if (call.matches()) {
                Method m = named(call.group(1));
                due(line, answer(x, m, given(m, call.group(2))), number(call.group(3)));
                shown++;
            }
        }
        due("there are examples", shown > 20, true);
    }

    private static void texts(List<String> page) {
        by("README.md, an example of a text's lines");
        int shown = 0;
        for (String line : page) {
            Matcher text = TEXT.matcher(line);
            if (text.matches()) {
                String s = text.group(2);
                fine(crowd(2, 1, 2), number(text.group(1)), s, (int) s.chars().filter(c -> c == ';').count());
                shown++;
            }
        }
        due("all four texts", shown, 4);
    }

    /** The least of all numbers is refused everywhere, in a desert whose TAPE is full. */
    private static void refusals(List<String> page) throws Exception {
        by("README.md, what a refused call answers");
        List<String> told = new ArrayList<>();
        for (String line : page) {
            Matcher row = REFUSAL.matcher(line);
            if (!row.matches()) {
                continue;
            }
            for (String name : row.group(2).replace("`", "").split(", ")) {
                told.add(name);
                Method m = named(name);
                Object[] least = new Object[m.getParameterCount()];
                Arrays.fill(least, m.getParameterCount() > 0 && m.getParameterTypes()[0] == boolean.class
                        ? (Object) false : (Object) Integer.MIN_VALUE);
                PillarSaints x = new PillarSaints();
                for (int i = 0; i < 20; i++) {
                    x.feed(0, 0, 0, 0, 0);
                }
                due(name, answer(x, m, least), row.group(1) == null ? 0 : number(row.group(1)));
            }
        }
        due("each call once", told.size(), face().size());
        due("each call once", new TreeSet<>(told).size(), face().size());
    }

    private static void callsOfTheFace(List<String> page) {
        by("README.md, the calls by what they do");
        String table = "";
        for (String line : page) {
            table += line.startsWith("| to ") ? line : "";
        }
        for (Method m : face()) {
            due(m.getName(), table.contains("`" + m.getName() + "`"), true);
        }
    }
}
