import java.io.IOException;
import java.lang.reflect.Field;
import java.lang.reflect.Method;
import java.lang.reflect.Modifier;
import java.nio.file.Files;
import java.nio.file.Path;
import java.util.ArrayList;
import java.util.Comparator;
import java.util.List;
import java.util.Map;
import java.util.Random;
import java.util.Set;
import java.util.TreeMap;
import java.util.TreeSet;
import java.util.regex.Matcher;
import java.util.regex.Pattern;

// README.md tells the truth: its example is run, and its tables are held against the class.
public final class ReadmeTest {
    private static final String NEW_OBJECT = "MvccHeap heap = new MvccHeap();";
    private static final Pattern CALL = Pattern.compile("heap\\.(\\w+)\\((.*)\\); *// ([\\w-]+).*");
    private static final Pattern CALL_ROW = Pattern.compile("\\| `(\\w+)\\((.*?)\\)` \\|.*\\|([^|]*)\\|");
    private static final Pattern CODE_ROW = Pattern.compile("\\| `([A-Z_]+)` \\| (-\\d+) \\|.*");
    private static final Pattern CODE = Pattern.compile("`([A-Z_]+)`");
    private static final Set<String> ANSWER_VALUES = Set.of("get", "sum", "committed");
    private static final int RUNS = 2000;
    private static final int CALLS = 512;

    private static int wrong = 0;

    private static void due(String what, Object got, Object want) {
        if (!got.equals(want)) {
            wrong++;
            System.out.println(what + ": " + got + ", due is " + want);
        }
    }

    private static Map<String, Method> methods() {
        Map<String, Method> methods = new TreeMap<>();
        for (Method method : MvccHeap.class.getDeclaredMethods()) {
            if (Modifier.isPublic(method.getModifiers())) {
                methods.put(method.getName(), method);
            }
        }
        return methods;
    }

    private static Map<String, Integer> codes() throws IllegalAccessException {
        Map<String, Integer> codes = new TreeMap<>();
        for (Field field : MvccHeap.class.getDeclaredFields()) {
            if (Modifier.isPublic(field.getModifiers())) {
                codes.put(field.getName(), field.getInt(null));
            }
        }
        return codes;
    }

    private static void example(List<String> readme) throws ReflectiveOperationException {
        Map<String, Integer> codes = codes();
        MvccHeap heap = null;
        int calls = 0;
        for (String line : readme) {
            Matcher call = CALL.matcher(line);
            if (line.equals(NEW_OBJECT)) {
                heap = new MvccHeap();
            } else if (call.matches()) {
                String want = call.group(3);
                Object got = invoke(heap, methods().get(call.group(1)), call.group(2));
                due(line, got.toString(), codes.containsKey(want) ? codes.get(want).toString() : want);
                calls++;
            } else {
                due("a call of the example that can't be read: " + line, line.startsWith("heap."), false);
            }
        }
        due("the example has calls", calls > 0, true);
    }

    private static Object invoke(MvccHeap heap, Method method, String args) throws ReflectiveOperationException {
        List<Object> numbers = new ArrayList<>();
        for (String arg : parts(args)) {
            numbers.add(Integer.valueOf(arg));
        }
        return method.invoke(heap, numbers.toArray());
    }

    private static void tableOfCodes(List<String> readme) throws IllegalAccessException {
        Map<String, Integer> told = new TreeMap<>();
        for (String line : readme) {
            Matcher row = CODE_ROW.matcher(line);
            if (row.matches()) {
                told.put(row.group(1), Integer.valueOf(row.group(2)));
            }
        }
        due("the table of the codes", told, codes());
    }

    private static void tableOfCalls(List<String> readme) throws ReflectiveOperationException {
        Map<String, Set<Integer>> answered = codesAnswered();
        Map<String, Integer> codes = codes();
        Set<String> told = new TreeSet<>();
        for (String line : readme) {
            Matcher row = CALL_ROW.matcher(line);
            if (row.matches()) {
                String name = row.group(1);
                told.add(name);
                due("parameters of " + name, parts(row.group(2)).length, parameters(name));
                List<Integer> toldCodes = new ArrayList<>();
                Matcher code = CODE.matcher(row.group(3));
                while (code.find()) {
                    toldCodes.add(codes.get(code.group(1)));
                }
                due("codes of " + name, toldCodes, inOrder(answered.getOrDefault(name, Set.of())));
            }
        }
        due("the table of the calls", told, methods().keySet());
    }

    private static int parameters(String name) {
        Method method = methods().get(name);
        return method == null ? -1 : method.getParameterCount();
    }

    private static String[] parts(String list) {
        return list.isEmpty() ? new String[0] : list.split(", ");
    }

    // In the document the order of refusals is for each call the order of the codes' values, from -1 down.
    private static List<Integer> inOrder(Set<Integer> codes) {
        List<Integer> list = new ArrayList<>(codes);
        list.sort(Comparator.reverseOrder());
        return list;
    }

    // Which codes each call does answer, found by long runs of calls, the same ones each time.
    private static Map<String, Set<Integer>> codesAnswered() throws ReflectiveOperationException {
        List<Method> methods = new ArrayList<>(methods().values());
        Map<String, Set<Integer>> answered = new TreeMap<>();
        for (Method method : methods) {
            answered.put(method.getName(), new TreeSet<>());
        }
        for (int run = 1; run <= RUNS; run++) {
            Random random = new Random(run);
            MvccHeap heap = new MvccHeap();
            for (int i = 0; i < CALLS; i++) {
                Method method = methods.get(random.nextInt(methods.size()));
                // At one call in nineteen, crashes would keep the transactions from meeting each other.
                if (method.getName().equals("crash") && random.nextInt(100) != 0) {
                    continue;
                }
                Object[] args = new Object[method.getParameterCount()];
                for (int arg = 0; arg < args.length; arg++) {
                    args[arg] = random.nextInt(6) - 1;
                }
                Object answer = method.invoke(heap, args);
                if (answer instanceof Integer && (Integer) answer < 0 && !ANSWER_VALUES.contains(method.getName())) {
                    answered.get(method.getName()).add((Integer) answer);
                }
            }
        }
        return answered;
    }

    public static void main(String[] args) throws IOException, ReflectiveOperationException {
        List<String> readme = Files.readAllLines(Path.of("README.md"));
        example(readme);
        tableOfCodes(readme);
        tableOfCalls(readme);
        System.out.println(wrong == 0 ? "README.md is as due" : wrong + " places in README.md are not as due");
        if (wrong != 0) {
            System.exit(1);
        }
    }
}
