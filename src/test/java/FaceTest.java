import java.lang.reflect.Field;
import java.lang.reflect.Method;
import java.lang.reflect.Modifier;
import java.nio.file.Files;
import java.nio.file.Path;
import java.util.Arrays;
import java.util.Set;
import java.util.TreeSet;

/** The document's public face, and those rules of LANGUAGE.md that can be seen from outside. */
public final class FaceTest {
    private static final Bench BENCH = new Bench("FaceTest");

    private static final String[] FACE = {
        "int feed(int,int,int,int,int)", "boolean end(int)", "int net()", "int fault()", "int thing(int,int)",
        "int branch(int,boolean)", "int tree(int,int)", "int fewest(int)", "int acts(int,int)", "int actAt(int)",
        "long rows()", "int times(int,int,int)", "int alone(int,int)", "int cost(int,int)", "int reached(int,int)",
        "int canBe(int,int,int)", "int once(int)", "long onceMany()", "int onceAt(int)", "int order(int)",
        "int carry(int)", "int cooks(int,int)", "int promised()", "int ready(int)", "int plan()", "int planAt(int)",
        "int judge(int,int)", "int judged(int)", "int spare(int,int)", "int spareAt(int)", "int count(int)"
    };

    public static void main(String[] args) throws Exception {
        Class<?> face = FewBowls.class;
        BENCH.due("public final", Modifier.isPublic(face.getModifiers()) && Modifier.isFinal(face.getModifiers()), true);
        BENCH.due("one constructor", face.getDeclaredConstructors().length, 1);
        BENCH.due("NONE", FewBowls.NONE, -1);
        Set<String> names = checkMethods(face);
        for (Field field : face.getDeclaredFields()) {
            boolean known = field.getName().equals("NONE") || Modifier.isPrivate(field.getModifiers());
            BENCH.due("field " + field.getName() + " is hidden", known, true);
        }
        checkClass(face, names);
        for (Class<?> inner : face.getDeclaredClasses()) {
            BENCH.due(inner + " is static and hidden", Modifier.isStatic(inner.getModifiers())
                && !Modifier.isPublic(inner.getModifiers()) && !Modifier.isProtected(inner.getModifiers()), true);
            checkClass(inner, names);
        }
        BENCH.due("twelve classes at most", face.getDeclaredClasses().length + 1 <= 12, true);
        checkSource();
        checkSentences();
        BENCH.close();
    }

    private static Set<String> checkMethods(Class<?> face) {
        Set<String> names = new TreeSet<>();
        Set<String> due = new TreeSet<>(Arrays.asList(FACE));
        for (Method method : face.getDeclaredMethods()) {
            StringBuilder told = new StringBuilder(method.getReturnType() + " " + method.getName() + "(");
            for (Class<?> type : method.getParameterTypes()) {
                told.append(told.charAt(told.length() - 1) == '(' ? "" : ",").append(type);
            }
            told.append(')');
            if (Modifier.isPublic(method.getModifiers())) {
                names.add(method.getName());
                BENCH.due(told + " is of the face", due.remove(told.toString()), true);
                boolean told1 = method.getName().equals("thing") || method.getName().equals("tree");
                BENCH.due(told + " says what it throws", method.getExceptionTypes().length, told1 ? 1 : 0);
            } else {
                BENCH.due(told + " is private", Modifier.isPrivate(method.getModifiers()), true);
            }
        }
        BENCH.due("missing of the face: " + due, due.size(), 0);
        return names;
    }

    private static void checkClass(Class<?> one, Set<String> names) {
        int fields = 0;
        for (Field field : one.getDeclaredFields()) {
            if (Modifier.isStatic(field.getModifiers())) {
                BENCH.due(one + "." + field.getName() + " is final", Modifier.isFinal(field.getModifiers()), true);
                BENCH.due(one + "." + field.getName() + " is of a kind that rule 5 names",
                    Set.of(int.class, long.class, boolean.class, char.class, String.class).contains(field.getType()), true);
            } else {
                fields++;
            }
        }
        BENCH.due(one + " has twenty fields at most", fields <= 20, true);
        for (Method method : one.getDeclaredMethods()) {
            BENCH.due(method + " has seven parameters at most", method.getParameterCount() <= 7, true);
            boolean free = Modifier.isPublic(method.getModifiers()) && one == FewBowls.class;
            BENCH.due(method + " bears no name of the face", free || !names.contains(method.getName()), true);
        }
    }

    private static void checkSource() throws Exception {
        Path path = Path.of("src/main/java/FewBowls.java");
        String source = Files.readString(path);
        String[] ruledOut = {
            "->", "::", "try", "catch", "finally", "synchronized", "assert", "volatile", "native", "package ",
            "java.io", "java.nio", "System.", "Thread", "Random", "Exact(", "double", "float", "?>", "var "
        };
        for (String one : ruledOut) {
            BENCH.due("the source has " + one, source.contains(one), false);
        }
        int imports = 0;
        int longest = 0;
        int since = 0;
        for (String line : source.split("\n")) {
            imports += line.startsWith("import ") ? 1 : 0;
            since = line.matches("    (    )?[a-z].*\\) .*\\{") ? 0 : since + 1;
            if (line.matches("    (    )?\\}")) {
                longest = Math.max(longest, since);
            }
        }
        BENCH.due("imports NoSuchElementException alone", imports, 1);
        BENCH.due("that import", source.contains("import java.util.NoSuchElementException;"), true);
        BENCH.due("methods of sixty lines at most", longest <= 60, true);
        BENCH.due("signs 1 to 127 alone", source.chars().allMatch(sign -> sign >= 1 && sign <= 127), true);
    }

    /** Each promise has its boundary cases tested, sentence by sentence. */
    private static void checkSentences() throws Exception {
        StringBuilder edges = new StringBuilder();
        for (String one : new String[] {"EdgeTextTest", "EdgeSearchTest", "EdgeOrderTest"}) {
            edges.append(Files.readString(Path.of("src/test/java/" + one + ".java")));
        }
        for (int promise = 1; promise <= 32; promise++) {
            BENCH.due("a sentence of promise " + promise, edges.toString().contains("B.sentence(" + promise + ", "), true);
        }
    }
}
