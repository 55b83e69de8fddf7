import java.io.File;
import java.lang.reflect.InvocationTargetException;
import java.lang.reflect.Method;
import java.lang.reflect.Modifier;
import java.nio.file.Files;
import java.nio.file.Path;
import java.util.List;
import java.util.regex.Matcher;
import java.util.regex.Pattern;

/** The calls that README.md shows answer what stands behind them there, and it names every call. */
public final class ReadmeTest {
    private static final Bench BENCH = new Bench("ReadmeTest");
    private static final Pattern CALL = Pattern.compile("kitchen\\.(\\w+)\\((.*?)\\);\\s*// (-?\\w+).*");
    private static final String MAKING = "FewBowls kitchen = new FewBowls();";
    private static final String NET = "raw flour";
    private static final String PLAN = "make flour;make milk;make dough in milk;wash flour;";

    public static void main(String[] args) throws Exception {
        List<String> page = Files.readAllLines(Path.of("README.md"));
        checkExamples(page);
        checkTexts(String.join("\n", page));
        checkNames(page);
        BENCH.close();
    }

    private static void checkExamples(List<String> page) throws Exception {
        FewBowls kitchen = null;
        int shown = 0;
        boolean inside = false;
        for (String line : page) {
            if (line.startsWith("```")) {
                inside = line.equals("```java");
            } else if (inside && line.equals(MAKING)) {
                kitchen = new FewBowls();
            } else if (inside) {
                Matcher call = CALL.matcher(line);
                BENCH.due("'" + line + "' is a call with its answer", call.matches() && kitchen != null, true);
                BENCH.due(line, answer(kitchen, call.group(1), call.group(2)).equals(call.group(3)), true);
                shown++;
            }
        }
        BENCH.due("there are examples", shown > 10, true);
    }

    private static String answer(FewBowls kitchen, String name, String told) throws Exception {
        String[] parts = told.isEmpty() ? new String[0] : told.split(", ");
        Object[] arguments = new Object[parts.length];
        for (int i = 0; i < parts.length; i++) {
            arguments[i] = Long.decode(parts[i]).intValue();
        }
        for (Method method : FewBowls.class.getMethods()) {
            if (method.getName().equals(name) && method.getParameterCount() == parts.length) {
                try {
                    return String.valueOf(method.invoke(kitchen, arguments));
                } catch (InvocationTargetException e) {
                    return "throws." + e.getCause().getClass().getSimpleName();
                }
            }
        }
        return "no such call";
    }

    private static void checkTexts(String page) {
        int from = page.indexOf(NET);
        int to = page.indexOf("```", Math.max(from, 0));
        BENCH.due("the page shows a NET and a PLAN", from >= 0 && to > from && page.contains("`" + PLAN + "`"), true);
        FewBowls kitchen = new FewBowls();
        BENCH.due("the NET shown", Bench.net(kitchen, page.substring(from, to)), 4);
        BENCH.due("the PLAN shown", Bench.plan(kitchen, PLAN), 4);
        BENCH.due("it is LET as far as it goes", kitchen.judge(1, 2), -1 - 4);
    }

    private static void checkNames(List<String> page) {
        StringBuilder table = new StringBuilder();
        for (String line : page) {
            table.append(line.startsWith("| `") ? line : "");
        }
        for (Method method : FewBowls.class.getDeclaredMethods()) {
            if (Modifier.isPublic(method.getModifiers())) {
                String call = "`" + method.getName() + "(";
                BENCH.due("the table has " + call, table.indexOf(call) >= 0, true);
            }
        }
        for (File file : new File("src/test/java").listFiles()) {
            String name = file.getName();
            if (name.endsWith("Test.java")) {
                String test = "`" + name.substring(0, name.length() - 5) + "`";
                BENCH.due("the table has " + test, table.indexOf(test) >= 0, true);
            }
        }
    }
}
