import java.lang.reflect.Constructor;
import java.lang.reflect.Field;
import java.lang.reflect.Method;
import java.lang.reflect.Modifier;
import java.util.Arrays;
import java.util.HashSet;
import java.util.Set;
import java.util.TreeSet;

/** The public face is the document's, and no other member can be seen from outside. */
public final class FaceTest {
    private static final String PLACE = "IndexOutOfBoundsException";
    private static final String STATE = "IllegalStateException";
    private static final String ARGUMENT = "IllegalArgumentException";
    private static final String[] FACE = {
        "at(int,int,int):int " + PLACE,
        "byteAt(int):int " + PLACE,
        "change(int,int,int,int,int):int " + PLACE + " " + ARGUMENT,
        "clear():int",
        "levels():int",
        "load(int):int " + STATE + " " + ARGUMENT,
        "mean(int,int,int,int):int " + PLACE,
        "open():int",
        "opened(int):int " + PLACE,
        "pack(int,int,int):int " + PLACE,
        "poke(int,int):int " + PLACE + " " + ARGUMENT,
        "put(int,int,int):int " + PLACE + " " + ARGUMENT,
        "restore(int,int):boolean " + PLACE + " " + STATE,
        "seam(int):int " + ARGUMENT,
        "seamAt(int):int " + PLACE,
        "size(int,int):int " + PLACE,
        "strip(int,int,int):int " + PLACE + " " + ARGUMENT,
        "turned(int,int,int):int " + PLACE,
        "zoom(int,int,int,int,int):int " + PLACE,
    };

    public static void main(String[] args) {
        Class<TilePyramid> face = TilePyramid.class;
        Check.due("a public final class", face.getModifiers() & (Modifier.PUBLIC | Modifier.FINAL),
                Modifier.PUBLIC | Modifier.FINAL);
        methods(face);
        fields(face);
        constructors(face);
        for (Class<?> inside : face.getDeclaredClasses()) {
            Check.due(inside + " is static", inside.getModifiers() & Modifier.STATIC, Modifier.STATIC);
            Check.due(inside + " is not public", inside.getModifiers() & Modifier.PUBLIC, 0);
        }
        Check.end("FaceTest");
    }

    private static void methods(Class<?> face) {
        Set<String> seen = new TreeSet<>();
        Set<String> names = new HashSet<>();
        for (Method m : face.getDeclaredMethods()) {
            if (Modifier.isPublic(m.getModifiers())) {
                seen.add(textOf(m));
                names.add(m.getName());
            }
        }
        Check.same("the face", String.join("\n", seen), String.join("\n", FACE));
        for (Method m : face.getDeclaredMethods()) {
            boolean isPublic = Modifier.isPublic(m.getModifiers());
            if (!isPublic && (!Modifier.isPrivate(m.getModifiers()) || names.contains(m.getName()))) {
                Check.fault(m + " can be seen or bears a public name");
            }
        }
    }

    private static String textOf(Method m) {
        StringBuilder text = new StringBuilder(m.getName() + typesOf(m.getParameterTypes()) + ":");
        text.append(m.getReturnType());
        for (Class<?> kind : m.getExceptionTypes()) {
            text.append(' ').append(kind.getSimpleName());
        }
        return text.toString();
    }

    private static void fields(Class<?> face) {
        for (Field f : face.getDeclaredFields()) {
            boolean isNone = f.getName().equals("NONE");
            int wanted = isNone ? Modifier.PUBLIC | Modifier.STATIC | Modifier.FINAL : Modifier.PRIVATE;
            Check.due(f + " as asked", f.getModifiers() & wanted, wanted);
        }
        Check.due("NONE", TilePyramid.NONE, -1);
    }

    private static void constructors(Class<?> face) {
        Check.due("constructors", face.getDeclaredConstructors().length, 1);
        for (Constructor<?> c : face.getDeclaredConstructors()) {
            Check.same("the constructor", typesOf(c.getParameterTypes()), "(int,int)");
            Check.due("it is public", c.getModifiers() & Modifier.PUBLIC, Modifier.PUBLIC);
        }
    }

    private static String typesOf(Class<?>[] types) {
        return "(" + String.join(",", Arrays.stream(types).map(Class::getName).toList()) + ")";
    }
}
