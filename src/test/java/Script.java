import java.lang.reflect.InvocationTargetException;
import java.lang.reflect.Method;
import java.util.ArrayList;
import java.util.Arrays;
import java.util.HashMap;
import java.util.List;
import java.util.Map;

/**
 * Runs calls that are written as in the document's examples: "place(0, 0) = 1; place(12, 0) = throws
 * IndexOutOfBoundsException". Each script begins with a new object; "#" begins a remark that ends
 * with its line, "= any" leaves an answer open, and "= same" wants the answer that the same call
 * gave the time before.
 */
final class Script {
    /** What the document promises for one object; what later calls answer is free. */
    static final int MOST_CALLS = 512;

    private static int wrong = 0;
    private static int calls = 0;

    private final String name;
    private final VillageBoard board = new VillageBoard();
    private final Map<String, String> earlier = new HashMap<>();
    private int made = 0;

    private Script(String name) {
        this.name = name;
    }

    static void run(String name, String text) {
        Script script = new Script(name);
        for (String line : steps(text)) {
            script.step(line);
        }
        if (script.made > MOST_CALLS) {
            throw new IllegalArgumentException(name + " makes " + script.made + " calls");
        }
    }

    /** Makes the calls of a script on a new object, without a look at the answers. */
    static VillageBoard replay(String text) {
        VillageBoard board = new VillageBoard();
        for (String line : steps(text)) {
            answer(board, callOf(line));
        }
        return board;
    }

    static List<String> steps(String text) {
        List<String> found = new ArrayList<>();
        for (String part : text.replaceAll("#[^\n]*", " ").split(";")) {
            String line = part.trim().replaceAll("\\s+", " ");
            if (!line.isEmpty()) {
                found.add(line);
            }
        }
        return found;
    }

    private static String callOf(String line) {
        int equals = line.indexOf('=');
        if (equals < 0) {
            throw new IllegalArgumentException("no answer in: " + line);
        }
        return line.substring(0, equals).trim().replace(" ", "");
    }

    private void step(String line) {
        String call = callOf(line);
        String due = line.substring(line.indexOf('=') + 1).trim().replace("NONE", "-1");
        if (due.equals("same")) {
            due = earlier.get(call);
        }
        String got = due.startsWith("throws") ? refusal(call) : answer(call);
        earlier.put(call, got);
        calls++;
        if (!due.equals("any") && !due.equals(got)) {
            wrong++;
            System.out.println(name + ": " + call + " answered " + got + ", due is " + due);
        }
    }

    private String answer(String call) {
        made++;
        return answer(board, call);
    }

    private String refusal(String call) {
        String before = answer("digest()");
        String got = answer(call);
        check(name + ": " + call + ", which throws, changes nothing", answer("digest()").equals(before));
        return got;
    }

    static String answer(Object board, String call) {
        String plain = call.replace(" ", "");
        int open = plain.indexOf('(');
        String inside = plain.substring(open + 1, plain.length() - 1).replace("NONE", "-1");
        int[] arguments = inside.isEmpty() ? new int[0]
                : Arrays.stream(inside.split(",")).mapToInt(Integer::parseInt).toArray();
        return answer(board, plain.substring(0, open), arguments);
    }

    /** The answer as a text, or "throws" and the name of the exception. */
    static String answer(Object board, String method, int... arguments) {
        Class<?>[] types = new Class<?>[arguments.length];
        Arrays.fill(types, int.class);
        Object[] boxed = Arrays.stream(arguments).boxed().toArray();
        try {
            Method found = board.getClass().getDeclaredMethod(method, types);
            return String.valueOf(found.invoke(board, boxed));
        } catch (InvocationTargetException thrown) {
            return "throws " + thrown.getCause().getClass().getSimpleName();
        } catch (ReflectiveOperationException noSuchCall) {
            throw new IllegalStateException(noSuchCall);
        }
    }

    static void check(String name, boolean holds) {
        calls++;
        if (!holds) {
            wrong++;
            System.out.println(name + " does not hold");
        }
    }

    static int wrong() {
        return wrong;
    }

    static void end() {
        System.out.println(wrong == 0 ? calls + " checks, all as due" : wrong + " of " + calls + " checks are wrong");
        if (wrong != 0) {
            System.exit(1);
        }
    }
}
