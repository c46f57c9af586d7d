import java.lang.reflect.Constructor;
import java.lang.reflect.Field;
import java.lang.reflect.Method;
import java.lang.reflect.Modifier;
import java.util.Set;
import java.util.TreeSet;

/** The public face: every constant, constructor and method with just these signatures, and no other. */
public final class FaceTest {
    private static final Set<String> METHODS = Set.of(
            "public int DerivativeCompiler.expression(int,int,int,int)",
            "public int DerivativeCompiler.function()",
            "public int DerivativeCompiler.statement(int,int,int,int)",
            "public int DerivativeCompiler.derive(int,int)",
            "public long DerivativeCompiler.run(int,long,long)",
            "public long DerivativeCompiler.gradient(int,int,long,long)",
            "public int DerivativeCompiler.cost(int)",
            "public int DerivativeCompiler.order(int)",
            "public int DerivativeCompiler.calls(int,int)",
            "public int DerivativeCompiler.count(int)");
    private static final Set<String> CONSTANTS = Set.of(
            "public static final int DerivativeCompiler.REFUSED",
            "public static final long DerivativeCompiler.NONE");

    public static void main(String[] args) {
        Check check = new Check("face");
        Class<?> face = DerivativeCompiler.class;
        Set<String> methods = new TreeSet<>();
        Set<String> constants = new TreeSet<>();
        Set<String> constructors = new TreeSet<>();
        for (Method method : face.getDeclaredMethods()) {
            if (!Modifier.isPrivate(method.getModifiers())) {
                methods.add(method.toString());
            }
        }
        for (Field field : face.getDeclaredFields()) {
            if (!Modifier.isPrivate(field.getModifiers())) {
                constants.add(field.toString());
            }
        }
        for (Constructor<?> constructor : face.getDeclaredConstructors()) {
            constructors.add(constructor.toString());
        }
        same(check, "methods", methods, METHODS);
        same(check, "constants", constants, CONSTANTS);
        same(check, "constructors", constructors, Set.of("public DerivativeCompiler()"));
        check.due("public final", face.getModifiers(), Modifier.PUBLIC | Modifier.FINAL);
        check.due("REFUSED", DerivativeCompiler.REFUSED, -1);
        check.due("NONE", DerivativeCompiler.NONE, -1000000000000000000L);
        check.finish();
    }

    private static void same(Check check, String what, Set<String> got, Set<String> want) {
        check.due(what + " " + new TreeSet<>(got), got.equals(want) ? 1 : 0, 1);
    }
}
