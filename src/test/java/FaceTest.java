import java.lang.reflect.Field;
import java.lang.reflect.Method;
import java.lang.reflect.Modifier;
import java.util.Arrays;
import java.util.List;
import java.util.TreeSet;

/** The public face as the document has it, and nothing else that can be seen. */
public final class FaceTest {
    private static final Due due = new Due("FaceTest");
    private static final String ARGUMENT = " IllegalArgumentException";
    private static final String BOTH = " IllegalArgumentException IllegalStateException";
    private static final String NO_SUCH = " NoSuchElementException";

    private static final List<String> FACE = List.of(
            "int feed(long,int)" + BOTH, "int number(long,int)" + BOTH, "int clear()", "int size()",
            "int at(int)" + NO_SUCH, "long read(int)" + NO_SUCH, "int frames(int,int)" + ARGUMENT,
            "int fault(boolean)", "long frame(int,int)" + NO_SUCH, "int data(int,int,boolean)" + NO_SUCH,
            "long range(int,int,boolean)" + NO_SUCH, "void draft()", "void set(int,long)" + ARGUMENT,
            "int add(long,int)" + BOTH, "void span(long,long)" + BOTH, "int put(int)" + BOTH,
            "int head(int,int)" + ARGUMENT, "int datagram(int,int)" + ARGUMENT, "long packet(int,int)" + NO_SUCH,
            "int lead(int,int,int,int,int)" + BOTH, "int cut(long,long)" + ARGUMENT,
            "long grow(long,long,int)" + ARGUMENT, "int parameters(int,boolean)" + ARGUMENT,
            "long parameter(int)" + NO_SUCH);

    public static void main(String[] args) {
        face();
        nothingElse();
        classesInside();
        due.end();
    }

    private static String written(Method method) {
        StringBuilder text = new StringBuilder(method.getReturnType().getSimpleName());
        text.append(' ').append(method.getName()).append('(');
        text.append(String.join(",", Arrays.stream(method.getParameterTypes()).map(Class::getSimpleName).toList()));
        text.append(')');
        for (Class<?> thrown : method.getExceptionTypes()) {
            text.append(' ').append(thrown.getSimpleName());
        }
        return text.toString();
    }

    private static void face() {
        TreeSet<String> seen = new TreeSet<>();
        for (Method method : WireCodec.class.getDeclaredMethods()) {
            if (!Modifier.isPrivate(method.getModifiers())) {
                seen.add(written(method));
                due.is(method + " is public and of an object", method.getModifiers(), Modifier.PUBLIC);
            }
        }
        for (String call : FACE) {
            due.is(call + " is there", seen.remove(call) ? 1 : 0, 1);
        }
        due.is("calls beyond the face " + seen, seen.size(), 0);
    }

    private static void nothingElse() {
        int modifiers = WireCodec.class.getModifiers();
        due.is("public and final", modifiers, Modifier.PUBLIC | Modifier.FINAL);
        due.is("constructors", WireCodec.class.getDeclaredConstructors().length, 1);
        due.is("public constructors", WireCodec.class.getConstructors().length, 1);
        due.is("without parameters", WireCodec.class.getConstructors()[0].getParameterCount(), 0);
        TreeSet<String> face = new TreeSet<>();
        for (String call : FACE) {
            face.add(call.substring(call.indexOf(' ') + 1, call.indexOf('(')));
        }
        for (Method method : WireCodec.class.getDeclaredMethods()) {
            boolean hidden = Modifier.isPrivate(method.getModifiers());
            due.is(method + " has a name of its own", hidden && face.contains(method.getName()) ? 1 : 0, 0);
        }
        fields(WireCodec.class, true);
    }

    private static void fields(Class<?> of, boolean allPrivate) {
        for (Field field : of.getDeclaredFields()) {
            int modifiers = field.getModifiers();
            due.is(field + " is private", !allPrivate || Modifier.isPrivate(modifiers) ? 1 : 0, 1);
            due.is(field + " is no static state", !Modifier.isStatic(modifiers) || Modifier.isFinal(modifiers) ? 1 : 0, 1);
        }
    }

    private static void classesInside() {
        Class<?>[] inside = WireCodec.class.getDeclaredClasses();
        due.is("at most twelve classes", inside.length < 12 ? 1 : 0, 1);
        for (Class<?> one : inside) {
            int modifiers = one.getModifiers();
            due.is(one + " is not seen", Modifier.isPublic(modifiers) || Modifier.isProtected(modifiers) ? 1 : 0, 0);
            due.is(one + " is static", Modifier.isStatic(modifiers) ? 1 : 0, 1);
            fields(one, false);
        }
    }
}
