import java.lang.reflect.Constructor;
import java.lang.reflect.Field;
import java.lang.reflect.Method;
import java.lang.reflect.Modifier;
import java.util.Arrays;
import java.util.Set;
import java.util.TreeSet;
import java.util.stream.Collectors;

/** The public face: the constants, constructor and methods of the document and no others. */
public final class FaceTest {
    private static final String[] METHODS = {
        "int feed(long, int) IllegalArgumentException UnsupportedOperationException",
        "void keep(int) IllegalArgumentException",
        "void damage(int) IndexOutOfBoundsException",
        "int append() UnsupportedOperationException",
        "int pack(int) IllegalArgumentException",
        "int unpack() IllegalStateException",
        "int at()",
        "int rescue()",
        "int given()",
        "int size()",
        "int out(int) IndexOutOfBoundsException",
        "int blocks()",
        "int block(int)",
        "int last(int)",
        "int symbol(int)",
        "int length(int, int)",
        "int table(int)",
    };
    private static final String[] CONSTANTS = {"NONE", "SHORT", "HEAD", "MARK", "MAP", "TABLES",
        "GROUPS", "PICK", "LENGTH", "CODE", "MORE", "ORIGIN", "LACK", "CHECK", "TOTAL"};

    public static void main(String[] args) throws IllegalAccessException {
        Class<?> face = SortedBlocks.class;
        Due.same("modifiers", Modifier.toString(face.getModifiers()), "public final");
        Set<String> methods = new TreeSet<>();
        Set<String> names = new TreeSet<>();
        for (Method method : face.getDeclaredMethods()) {
            if (!Modifier.isPrivate(method.getModifiers())) {
                methods.add(describe(method));
                names.add(method.getName());
            }
        }
        Due.same("methods", methods, new TreeSet<>(Arrays.asList(METHODS)));
        constants(face);
        Constructor<?>[] constructors = face.getDeclaredConstructors();
        Due.same("constructors", constructors.length, 1);
        Due.same("constructor", constructors[0].toString(), "public SortedBlocks()");
        for (Class<?> inner : face.getDeclaredClasses()) {
            classInside(inner, names);
        }
        classInside(face, Set.of());
        Due.end("FaceTest");
    }

    private static String describe(Method method) {
        String parameters = Arrays.stream(method.getParameterTypes()).map(Class::getSimpleName)
                .collect(Collectors.joining(", "));
        String thrown = Arrays.stream(method.getExceptionTypes()).map(c -> " " + c.getSimpleName())
                .collect(Collectors.joining());
        return method.getReturnType() + " " + method.getName() + "(" + parameters + ")" + thrown;
    }

    private static void constants(Class<?> face) throws IllegalAccessException {
        Set<String> constants = new TreeSet<>();
        for (Field field : face.getDeclaredFields()) {
            if (!Modifier.isPrivate(field.getModifiers())) {
                constants.add(field.getName());
                Due.same(field.getName(), Modifier.toString(field.getModifiers()) + " " + field.getType(),
                        "public static final int");
            }
        }
        Due.same("constants", constants, new TreeSet<>(Arrays.asList(CONSTANTS)));
        for (int i = 0; i < CONSTANTS.length; i++) {
            try {
                Due.same(CONSTANTS[i], face.getField(CONSTANTS[i]).getInt(null), -1 - i);
            } catch (NoSuchFieldException e) {
                Due.same(CONSTANTS[i], "missing", "there");
            }
        }
    }

    /** What LANGUAGE.md says of classes and can be seen from outside the text. */
    private static void classInside(Class<?> inside, Set<String> publicNames) {
        int fields = 0;
        for (Field field : inside.getDeclaredFields()) {
            boolean isStatic = Modifier.isStatic(field.getModifiers());
            fields += isStatic ? 0 : 1;
            Due.same(inside + " " + field.getName() + " is final or no static",
                    !isStatic || Modifier.isFinal(field.getModifiers()), true);
        }
        Due.same(inside + " has few fields", fields <= 20, true);
        for (Method method : inside.getDeclaredMethods()) {
            Due.same(inside + " " + method.getName() + " has few parameters",
                    method.getParameterCount() <= 7, true);
            Due.same(inside + " " + method.getName() + " has a name of its own",
                    publicNames.contains(method.getName()), false);
        }
    }
}
