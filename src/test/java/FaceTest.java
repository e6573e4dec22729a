import java.lang.reflect.Executable;
import java.lang.reflect.Field;
import java.lang.reflect.Method;
import java.lang.reflect.Modifier;
import java.util.Arrays;
import java.util.TreeSet;
import java.util.stream.Collectors;

/** The public face of the document, and nothing beside it; private names do not double its names. */
public final class FaceTest {
    private static final String FACE = """
            feed int
            quay
            tide int
            wind int
            rises int int
            ring int int
            boat int int
            pay int int
            tie int int
            set int int
            hour
            needs int int
            out int int
            lies int int int
            hours int int
            length int int
            tended int int
            touch int int
            clear int int
            slack int
            alongside int
            mud int int
            carry int int int
            berths int
            saves int int
            marks int int int
            whose int
            row int
            judge int
            drop
            seeds int int int int
            back
            spring int
            swells int int
            fortnight int int
            watch int int
            seldom int
            wake int int
            ramp int int
            slope int int
            open int int
            bridge int int int
            passes int int int
            waited int int
            cheapest int
            crossed int
            hung int int int
            skippers int int int
            image
            restore
            count int
            """;

    private static int isTrue(boolean told) {
        return told ? 1 : 0;
    }

    private static String signature(Executable e) {
        return e.getName() + Arrays.stream(e.getParameterTypes()).map(t -> " " + t.getName())
                .collect(Collectors.joining());
    }

    private static boolean isSeen(int modifiers) {
        return !Modifier.isPrivate(modifiers);
    }

    private static void checkMethods() {
        TreeSet<String> due = new TreeSet<>(FACE.lines().toList());
        TreeSet<String> seen = new TreeSet<>();
        TreeSet<String> hidden = new TreeSet<>();
        for (Method m : HangsAtLowWater.class.getDeclaredMethods()) {
            if (m.isSynthetic()) {
                continue;
            }
            if (!isSeen(m.getModifiers())) {
                hidden.add(m.getName());
                continue;
            }
            seen.add(signature(m));
            Check.due(m + " is public and an object's own, answers an int and declares nothing", isTrue(
                    Modifier.isPublic(m.getModifiers()) && !Modifier.isStatic(m.getModifiers())
                    && m.getReturnType() == int.class && m.getExceptionTypes().length == 0), 1);
        }
        for (String name : due) {
            Check.due("the face has " + name, isTrue(seen.contains(name)), 1);
            Check.due("nothing private is called as " + name, isTrue(hidden.contains(name.split(" ")[0])), 0);
        }
        Check.due("the face has 51 calls and no other: " + seen, isTrue(seen.equals(due)) * seen.size(), 51);
    }

    private static void checkClasses() {
        Class<?> face = HangsAtLowWater.class;
        Check.due("the class is public and final", face.getModifiers(), Modifier.PUBLIC | Modifier.FINAL);
        Check.due("it has no package", isTrue(face.getPackageName().isEmpty()), 1);
        Check.due("it stands under nothing of its own", isTrue(face.getSuperclass() == Object.class), 1);
        Check.due("constructors", face.getDeclaredConstructors().length, 1);
        Check.due("constructors that are public and take nothing",
                (int) Arrays.stream(face.getConstructors()).filter(c -> c.getParameterCount() == 0).count(), 1);
        for (Field f : face.getDeclaredFields()) {
            Check.due("field " + f.getName() + " is seen from outside", isTrue(isSeen(f.getModifiers())), 0);
        }
        for (Class<?> inside : face.getDeclaredClasses()) {
            int modifiers = inside.getModifiers();
            Check.due(inside + " is static, neither public nor protected", isTrue(Modifier.isStatic(modifiers)
                    && !Modifier.isPublic(modifiers) && !Modifier.isProtected(modifiers)), 1);
        }
    }

    public static void main(String[] arguments) {
        checkMethods();
        checkClasses();
        Check.finish();
    }
}
