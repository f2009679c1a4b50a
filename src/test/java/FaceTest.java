import java.lang.reflect.Constructor;
import java.lang.reflect.Field;
import java.lang.reflect.Method;
import java.lang.reflect.Modifier;
import java.util.Set;
import java.util.TreeSet;

/** The public face: the constant, the constructor and the methods of the document, and no other member that can be seen. */
public final class FaceTest {
    private static final Set<String> FACE = Set.of("put/3", "fill/3", "ramp/3", "weave/1", "pixel/2", "quality/1",
        "interval/1", "store/0", "lose/1", "level/3", "show/2", "difference/0", "adopt/0", "weight/1");

    public static void main(String[] args) {
        Check.due("BAD_ARG", BaselineJpeg.BAD_ARG, -1000000L);
        int kind = BaselineJpeg.class.getModifiers();
        Check.holds("the class is public and final", Modifier.isPublic(kind) && Modifier.isFinal(kind));
        methods();
        fields();
        Constructor<?>[] made = BaselineJpeg.class.getDeclaredConstructors();
        Check.holds("one public constructor without arguments",
            made.length == 1 && Modifier.isPublic(made[0].getModifiers()) && made[0].getParameterCount() == 0);
        Check.end();
    }

    private static void methods() {
        Set<String> seen = new TreeSet<>();
        for (Method method : BaselineJpeg.class.getDeclaredMethods()) {
            if (Modifier.isPrivate(method.getModifiers())) {
                continue;
            }
            seen.add(method.getName() + "/" + method.getParameterCount());
            boolean plain = Modifier.isPublic(method.getModifiers()) && !Modifier.isStatic(method.getModifiers());
            Check.holds(method.getName() + " is public and answers an int", plain && method.getReturnType() == int.class);
            for (Class<?> type : method.getParameterTypes()) {
                Check.holds(method.getName() + " takes ints", type == int.class);
            }
        }
        Check.holds("the methods are those of the document: " + seen, seen.equals(FACE));
    }

    private static void fields() {
        for (Field field : BaselineJpeg.class.getDeclaredFields()) {
            boolean constant = field.getName().equals("BAD_ARG") && Modifier.isPublic(field.getModifiers());
            Check.holds(field.getName() + " is private", constant || Modifier.isPrivate(field.getModifiers()));
        }
    }
}
