import java.lang.reflect.InvocationTargetException;
import java.lang.reflect.Method;
import java.util.Arrays;

/**
 * Runs calls that are written as in the document's examples: "place(0, 0) = 1; place(12, 0) = throws
 * IndexOutOfBoundsException". Each script begins with a new object; "#" begins a remark that ends
 * with its line, "= any" leaves an answer open, and "= same" wants the answer that the same call
 * gave the time before.
 */
final class Script {
    private static int wrong = 0;
    private static int calls = 0;

    private Script() {
    }

    static void run(String name, String text) {
        VillageBoard board = new VillageBoard();
        java.util.Map<String, String> earlier = new java.util.HashMap<>();
        String plain = text.replaceAll("#[^\n]*", " ");
        for (String part : plain.split(";")) {
            String line = part.trim().replaceAll("\\s+", " ");
            if (!line.isEmpty()) {
                step(name, board, line, earlier);
            }
        }
    }

    private static void step(String name, VillageBoard board, String line, java.util.Map<String, String> earlier) {
        int equals = line.indexOf('=');
        if (equals < 0) {
            throw new IllegalArgumentException("no answer in: " + line);
        }
        String call = line.substring(0, equals).trim().replace(" ", "");
        String due = line.substring(equals + 1).trim().replace("NONE", "-1");
        if (due.equals("same")) {
            due = earlier.get(call);
        }
        String got = answer(board, call);
        earlier.put(call, got);
        calls++;
        if (!due.equals("any") && !due.equals(got)) {
            wrong++;
            System.out.println(name + ": " + call + " answered " + got + ", due is " + due);
        }
    }

    private static String answer(VillageBoard board, String call) {
        int open = call.indexOf('(');
        String inside = call.substring(open + 1, call.length() - 1).replace("NONE", "-1");
        int[] arguments = inside.isEmpty() ? new int[0]
                : Arrays.stream(inside.split(",")).mapToInt(Integer::parseInt).toArray();
        return answer(board, call.substring(0, open), arguments);
    }

    /** The answer as a text, or "throws" and the name of the exception. */
    static String answer(Object board, String method, int... arguments) {
        Class<?>[] types = new Class<?>[arguments.length];
        Arrays.fill(types, int.class);
        Object[] boxed = Arrays.stream(arguments).boxed().toArray();
        try {
            Method found = board.getClass().getDeclaredMethod(method, types);
            return String.valueOf(found.invoke(board, boxed));
        } catch (InvocationTargetException thrown) {
            return "throws " + thrown.getCause().getClass().getSimpleName();
        } catch (ReflectiveOperationException noSuchCall) {
            throw new IllegalStateException(noSuchCall);
        }
    }

    static void check(String name, boolean holds) {
        calls++;
        if (!holds) {
            wrong++;
            System.out.println(name + " does not hold");
        }
    }

    static void end() {
        System.out.println(wrong == 0 ? calls + " checks, all as due" : wrong + " of " + calls + " checks are wrong");
        if (wrong != 0) {
            System.exit(1);
        }
    }
}
