import java.lang.reflect.Constructor;
import java.lang.reflect.Field;
import java.lang.reflect.Method;
import java.lang.reflect.Modifier;
import java.util.Arrays;
import java.util.Set;
import java.util.TreeSet;

/** The public face of the document: its constants, constructor and methods, and no other member. */
public final class FaceTest {
    private static final Check CHECK = new Check();
    private static final Set<String> METHODS = new TreeSet<>(Set.of(
        "lead 3", "successors 1", "run 2", "possible 0", "times 1", "distinct 0", "gone 0",
        "hottest 0", "path 1", "through 1", "visits 1", "arc 2", "unfinished 0", "longest 0"));

    public static void main(String[] args) {
        CHECK.due("BAD_ARG", PathProfiler.BAD_ARG, -1);
        CHECK.due("NONE", PathProfiler.NONE, -4);
        int modifiers = PathProfiler.class.getModifiers();
        CHECK.holds("public and final", Modifier.isPublic(modifiers) && Modifier.isFinal(modifiers));
        CHECK.due("nested classes", PathProfiler.class.getDeclaredClasses().length, 0);
        fields();
        constructors();
        methods();
        CHECK.end();
    }

    private static void fields() {
        Set<String> open = new TreeSet<>();
        for (Field field : PathProfiler.class.getDeclaredFields()) {
            if (!Modifier.isPrivate(field.getModifiers())) {
                open.add(field.getName());
            }
            if (Modifier.isStatic(field.getModifiers())) {
                boolean constant = Modifier.isFinal(field.getModifiers())
                    && (field.getType() == int.class || field.getType() == long.class);
                CHECK.holds(field.getName() + " is a constant number", constant);
            }
        }
        CHECK.holds("no other open field: " + open, open.equals(Set.of("BAD_ARG", "NONE")));
    }

    private static void constructors() {
        Constructor<?>[] all = PathProfiler.class.getDeclaredConstructors();
        CHECK.due("constructors", all.length, 1);
        CHECK.due("parameters of the constructor", all[0].getParameterCount(), 0);
        CHECK.holds("a public constructor", Modifier.isPublic(all[0].getModifiers()));
    }

    private static void methods() {
        Set<String> open = new TreeSet<>();
        for (Method method : PathProfiler.class.getDeclaredMethods()) {
            if (Modifier.isPrivate(method.getModifiers())) {
                boolean taken = METHODS.stream().anyMatch(m -> m.startsWith(method.getName() + " "));
                CHECK.holds("private " + method.getName() + " bears its own name", !taken);
                continue;
            }
            open.add(method.getName() + " " + method.getParameterCount());
            boolean ints = method.getReturnType() == int.class
                && Arrays.stream(method.getParameterTypes()).allMatch(type -> type == int.class);
            CHECK.holds(method.getName() + " is over ints", ints);
            CHECK.holds(method.getName() + " is public", Modifier.isPublic(method.getModifiers()));
            CHECK.holds(method.getName() + " is not static", !Modifier.isStatic(method.getModifiers()));
        }
        CHECK.holds("the methods of the document: " + open, open.equals(METHODS));
    }
}
