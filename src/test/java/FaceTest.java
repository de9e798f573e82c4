import java.lang.reflect.Constructor;
import java.lang.reflect.Field;
import java.lang.reflect.Method;
import java.lang.reflect.Modifier;
import java.util.Arrays;
import java.util.Set;
import java.util.TreeSet;

/** The public face: just the document's constant, constructor and methods, with what they may throw. */
public final class FaceTest {
    private static final String A = " IllegalArgumentException";
    private static final String S = " IllegalStateException";
    private static final String I = " IndexOutOfBoundsException";

    public static void main(String[] args) {
        Expect expect = new Expect();
        expect.answers(-1, "NONE", () -> NormalForms.NONE);
        Set<String> due = new TreeSet<>(Set.of(
            "void mark[int, int, int]" + A + S, "void property[int, int, int]" + A + S,
            "void part[int, int, int]" + A + S, "void loose[int, int, int, int]" + A + S,
            "void exclude[int, boolean]" + A + S, "int add[int, int, int, int, int]" + A + S, "int clear[]",
            "int form[int]" + A + S, "int at[int]", "int keep[]" + S, "boolean isIn[int]" + A + S,
            "boolean ends[int]" + I, "int rule[int]" + I, "int readers[]"));
        Set<String> got = new TreeSet<>();
        for (Method method : NormalForms.class.getDeclaredMethods()) {
            if (!Modifier.isPrivate(method.getModifiers())) {
                got.add(written(method));
            }
        }
        expect.same(due.toString(), "methods", got.toString());
        expect.same("public final", "class", Modifier.toString(NormalForms.class.getModifiers()));
        Constructor<?>[] constructors = NormalForms.class.getDeclaredConstructors();
        expect.same("[public NormalForms()]", "constructors", Arrays.toString(constructors));
        for (Field field : NormalForms.class.getDeclaredFields()) {
            String access = field.getName().equals("NONE") ? "public static final" : "private";
            expect.same(access, field.getName(), Modifier.toString(field.getModifiers()).replaceAll("^private.*", "private"));
        }
        for (Class<?> inside : NormalForms.class.getDeclaredClasses()) {
            boolean isHidden = Modifier.isPrivate(inside.getModifiers()) && Modifier.isStatic(inside.getModifiers());
            expect.same("true", inside.getName() + " is private and static", "" + isHidden);
        }
        expect.end();
    }

    private static String written(Method method) {
        StringBuilder all = new StringBuilder();
        all.append(method.getReturnType()).append(" ").append(method.getName());
        all.append(Arrays.toString(method.getParameterTypes()));
        for (Class<?> thrown : method.getExceptionTypes()) {
            all.append(" ").append(thrown.getSimpleName());
        }
        return all.toString();
    }
}
