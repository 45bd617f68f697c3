import java.lang.reflect.Constructor;
import java.lang.reflect.Field;
import java.lang.reflect.Method;
import java.lang.reflect.Modifier;
import java.util.Set;
import java.util.TreeSet;

/** The public face is the document's and nothing more, and the fields keep to LANGUAGE.md. */
public final class FaceTest {
    private static final Set<String> FACE = Set.of(
        "public static final int SeedSolver.BAD",
        "public static final int SeedSolver.NONE",
        "public static final int SeedSolver.FREE",
        "public SeedSolver(int,int)",
        "public boolean SeedSolver.shifter(int,int)",
        "public boolean SeedSolver.want(int,int,int,int)",
        "public int SeedSolver.expand(int,int,int)",
        "public int SeedSolver.seeds(int)",
        "public int SeedSolver.leastSeed(int)",
        "public int SeedSolver.greatestSeed(int)",
        "public int SeedSolver.forced(int,int,int)",
        "public int SeedSolver.seedsNeeded(int)",
        "public boolean SeedSolver.forget(int)");

    public static void main(String[] args) {
        Check check = new Check();
        Class<SeedSolver> type = SeedSolver.class;
        Set<String> open = new TreeSet<>();
        Set<String> openNames = new TreeSet<>();
        for (Constructor<?> made : type.getDeclaredConstructors()) {
            open.add(made.toString());
        }
        for (Method method : type.getDeclaredMethods()) {
            if (!Modifier.isPrivate(method.getModifiers())) {
                open.add(method.toString());
                openNames.add(method.getName());
            }
        }
        for (Method method : type.getDeclaredMethods()) {
            if (Modifier.isPrivate(method.getModifiers())) {
                check.no("a private method named " + method.getName(), openNames.contains(method.getName()));
            }
        }
        for (Field field : type.getDeclaredFields()) {
            if (!Modifier.isPrivate(field.getModifiers())) {
                open.add(field.toString());
            }
            boolean array = field.getType().isArray();
            Class<?> kind = array ? field.getType().getComponentType() : field.getType();
            check.yes(field + " holds whole numbers", kind.isPrimitive() && kind != float.class && kind != double.class);
            check.no(field + " is a static array", array && Modifier.isStatic(field.getModifiers()));
        }
        for (String member : FACE) {
            check.yes(member + " is there", open.contains(member));
        }
        for (String member : open) {
            check.yes(member + " is in the document", FACE.contains(member));
        }
        check.yes("the class is public and final", Modifier.isPublic(type.getModifiers()) && Modifier.isFinal(type.getModifiers()));
        check.same("nested classes", type.getDeclaredClasses().length, 0);
        check.yes("the class has no package", type.getPackageName().isEmpty());
        check.yes("the class inherits from Object alone", type.getSuperclass() == Object.class);
        check.same("interfaces", type.getInterfaces().length, 0);
        check.same("BAD", SeedSolver.BAD, -1);
        check.same("NONE", SeedSolver.NONE, -2);
        check.same("FREE", SeedSolver.FREE, 2);
        check.end();
    }
}
