import java.io.IOException;
import java.lang.reflect.Array;
import java.lang.reflect.Constructor;
import java.lang.reflect.Field;
import java.lang.reflect.Method;
import java.lang.reflect.Modifier;
import java.nio.file.Files;
import java.nio.file.Path;
import java.util.Arrays;
import java.util.IdentityHashMap;
import java.util.List;
import java.util.Map;
import java.util.Set;
import java.util.TreeSet;
import java.util.stream.Collectors;

/** The public face, the rules of LANGUAGE.md that can be looked up, and the room that a run takes. */
public final class FormTest {
    private static final List<String> FACE = List.of(
        "int newGame(int, int) IllegalArgumentException",
        "int reason(int, int) IndexOutOfBoundsException",
        "int place(int, int) IndexOutOfBoundsException, IllegalStateException",
        "int skip() IllegalStateException",
        "int play(int, int) IllegalArgumentException",
        "int players() ", "int round() ", "int inTurn() ", "int startPlayer() ",
        "int goods(int, int) IndexOutOfBoundsException, IllegalArgumentException",
        "int player(int, int) IndexOutOfBoundsException, IllegalArgumentException",
        "int owner(int) IndexOutOfBoundsException",
        "int space(int, int) IndexOutOfBoundsException, IllegalArgumentException",
        "int cost(int, int, int) IndexOutOfBoundsException, IllegalArgumentException",
        "int need(int) IndexOutOfBoundsException",
        "int missing(int) IndexOutOfBoundsException",
        "int score(int, int) IndexOutOfBoundsException, IllegalArgumentException",
        "int rank(int) IndexOutOfBoundsException",
        "int possible() ",
        "int option(int) IndexOutOfBoundsException",
        "int bestScore(int) IllegalArgumentException",
        "int bestPlacement(int, int) IllegalArgumentException",
        "int moves() ",
        "int move(int, int) IndexOutOfBoundsException, IllegalArgumentException",
        "int undo() IllegalStateException",
        "long digest() ");

    public static void main(String[] args) throws IOException, IllegalAccessException {
        face();
        nestedClasses();
        source();
        room();
        allocations();
        Script.end();
    }

    private static void face() {
        Class<?> type = VillageBoard.class;
        Script.check("the class is public and final", type.getModifiers() == (Modifier.PUBLIC | Modifier.FINAL));
        Set<String> methods = new TreeSet<>();
        Set<String> hidden = new TreeSet<>();
        for (Method method : type.getDeclaredMethods()) {
            if (Modifier.isPrivate(method.getModifiers())) {
                hidden.add(method.getName());
            } else {
                methods.add(signature(method));
            }
        }
        Script.check("the face is that of the document: " + methods, methods.equals(new TreeSet<>(FACE)));
        Script.check("no private method bears a public name",
            Arrays.stream(type.getMethods()).noneMatch(method -> hidden.contains(method.getName())));
        Constructor<?>[] constructors = type.getDeclaredConstructors();
        Script.check("there is one constructor", constructors.length == 1 && constructors[0].getParameterCount() == 0
            && Modifier.isPublic(constructors[0].getModifiers()));
        Set<String> constants = Arrays.stream(type.getDeclaredFields())
            .filter(field -> !Modifier.isPrivate(field.getModifiers())).map(Field::getName)
            .collect(Collectors.toCollection(TreeSet::new));
        Script.check("the constants are those of the document",
            constants.equals(Set.of("NONE", "WOOD", "CLAY", "GRAIN", "SHEEP", "FOOD")));
        Script.check("the constants have their values", VillageBoard.NONE == -1 && VillageBoard.WOOD == 0
            && VillageBoard.CLAY == 1 && VillageBoard.GRAIN == 2 && VillageBoard.SHEEP == 3 && VillageBoard.FOOD == 4);
    }

    private static String signature(Method method) {
        String parameters = Arrays.stream(method.getParameterTypes()).map(Class::getSimpleName)
            .collect(Collectors.joining(", "));
        String exceptions = Arrays.stream(method.getExceptionTypes()).map(Class::getSimpleName)
            .collect(Collectors.joining(", "));
        return method.getReturnType() + " " + method.getName() + "(" + parameters + ") " + exceptions;
    }

    private static void nestedClasses() {
        Set<String> faceNames = Arrays.stream(VillageBoard.class.getDeclaredMethods())
            .filter(method -> Modifier.isPublic(method.getModifiers())).map(Method::getName).collect(Collectors.toSet());
        Class<?>[] nested = VillageBoard.class.getDeclaredClasses();
        Script.check("there are at most twelve classes", nested.length < 12);
        for (Class<?> type : nested) {
            Script.check(type + " is static and hidden", Modifier.isStatic(type.getModifiers())
                && !Modifier.isPublic(type.getModifiers()) && !Modifier.isProtected(type.getModifiers()));
            Script.check(type + " bears no name of the face",
                Arrays.stream(type.getDeclaredMethods()).noneMatch(method -> faceNames.contains(method.getName())));
            Script.check(type + " has at most twenty fields", type.getDeclaredFields().length <= 20);
            for (Field field : type.getDeclaredFields()) {
                Script.check(field + " is final if it is static",
                    !Modifier.isStatic(field.getModifiers()) || Modifier.isFinal(field.getModifiers()));
            }
        }
    }

    private static void source() throws IOException {
        String text = Files.readString(Path.of("src/main/java/VillageBoard.java"));
        Script.check("the source has signs up to 126 alone", text.chars().allMatch(sign -> sign < 127));
        for (String banned : List.of("import ", "package ", "->", "::", "catch", "finally", "synchronized", "assert ",
                "static {", "instanceof", "Exact(", "toString", "hashCode")) {
            Script.check("the source does without " + banned, !text.contains(banned));
        }
    }

    /** What one object holds, times the many objects that one room may have to take. */
    private static void room() throws IllegalAccessException {
        Map<Object, Boolean> seen = new IdentityHashMap<>();
        long fields = fieldsBelow(new VillageBoard(), seen);
        System.out.println("one object of the class is " + seen.size() + " objects with " + fields + " fields");
        Script.check("an object holds little", seen.size() <= 150 && fields <= 2500);
    }

    private static long fieldsBelow(Object object, Map<Object, Boolean> seen) throws IllegalAccessException {
        if (object == null || seen.put(object, true) != null) {
            return 0;
        }
        long sum = 0;
        if (object.getClass().isArray()) {
            sum = Array.getLength(object);
            for (int i = 0; !object.getClass().getComponentType().isPrimitive() && i < Array.getLength(object); i++) {
                sum += fieldsBelow(Array.get(object, i), seen);
            }
            return sum;
        }
        for (Field field : object.getClass().getDeclaredFields()) {
            if (!Modifier.isStatic(field.getModifiers())) {
                field.setAccessible(true);
                sum += 1 + (field.getType().isPrimitive() ? 0 : fieldsBelow(field.get(object), seen));
            }
        }
        return sum;
    }

    /** No call makes an object, so that a long run takes no more room than a short one. */
    private static void allocations() {
        com.sun.management.ThreadMXBean beans =
            (com.sun.management.ThreadMXBean) java.lang.management.ManagementFactory.getThreadMXBean();
        long thread = Thread.currentThread().getId();
        allocationRun();
        long before = beans.getThreadAllocatedBytes(thread);
        allocationRun();
        long bytes = beans.getThreadAllocatedBytes(thread) - before;
        System.out.println("a run of 512 calls allocates " + bytes + " bytes");
        Script.check("a run of 512 calls allocates one object alone", bytes < 20_000);
    }

    private static void allocationRun() {
        VillageBoard board = new VillageBoard();
        board.newGame(4, 12);
        for (int i = 0; i < 73; i++) {
            board.play(2, 2);
            board.bestScore(3);
            board.bestPlacement(3, 0);
            board.digest();
            board.possible();
            board.rank(0);
            if (i % 5 == 0) {
                board.undo();
            }
        }
    }
}
