import java.lang.reflect.Constructor;
import java.lang.reflect.Field;
import java.lang.reflect.Method;
import java.lang.reflect.Modifier;
import java.util.Arrays;
import java.util.Set;
import java.util.TreeSet;

/** The public face, and rules 1, 5 and 11 of LANGUAGE.md as far as they show from outside. */
public final class FaceTest {
    private static final String[] FACE = {
        "int put(int,int,int,int) IndexOutOfBoundsException IllegalArgumentException",
        "int drop(int,int,int,int) IndexOutOfBoundsException IllegalArgumentException",
        "int copy(int,int) IndexOutOfBoundsException",
        "int size(int,int) IndexOutOfBoundsException",
        "int fact(int,int) IndexOutOfBoundsException",
        "boolean alike(int,int) IndexOutOfBoundsException",
        "int image(int,int,int) IndexOutOfBoundsException",
        "int form(int,int) IndexOutOfBoundsException",
        "boolean follows(int,int) IndexOutOfBoundsException",
        "int putting(int,int,int) IndexOutOfBoundsException",
        "boolean lean(int) IndexOutOfBoundsException",
        "int core(int) IndexOutOfBoundsException",
        "int join(int,int,int) IndexOutOfBoundsException",
        "int merge(int,int,int,int) IndexOutOfBoundsException",
        "int clash(int,int) IndexOutOfBoundsException",
        "int change(int,int) IndexOutOfBoundsException",
        "int part(int,int) IndexOutOfBoundsException",
        "int apply(int,boolean) IndexOutOfBoundsException"};

    private FaceTest() {
    }

    public static void main(String[] args) {
        Due.due("NONE", -1, () -> MergeGraphs.NONE);
        Due.dueTrue("the class is public and final",
            (MergeGraphs.class.getModifiers() & (Modifier.PUBLIC | Modifier.FINAL)) == (Modifier.PUBLIC | Modifier.FINAL));
        methods();
        fields(MergeGraphs.class);
        constructors();
        classesInside();
        Due.end("FaceTest");
    }

    private static void methods() {
        Set<String> open = new TreeSet<>();
        Set<String> openNames = new TreeSet<>();
        for (Method method : MergeGraphs.class.getDeclaredMethods()) {
            if (!Modifier.isPrivate(method.getModifiers())) {
                open.add(text(method));
                openNames.add(method.getName());
            }
        }
        Due.dueText("the methods", new TreeSet<>(Arrays.asList(FACE)).toString(), open.toString());
        namesOfTheirOwn(MergeGraphs.class, openNames);
        for (Class<?> inside : MergeGraphs.class.getDeclaredClasses()) {
            namesOfTheirOwn(inside, openNames);
        }
    }

    private static void namesOfTheirOwn(Class<?> owner, Set<String> openNames) {
        for (Method method : owner.getDeclaredMethods()) {
            if (!Modifier.isPublic(method.getModifiers())) {
                Due.dueTrue(method + " has a name of its own", !openNames.contains(method.getName()));
            }
            Due.dueTrue(method + " has seven parameters at most", method.getParameterCount() <= 7);
        }
    }

    private static String text(Method method) {
        StringBuilder text = new StringBuilder();
        text.append(method.getReturnType().getSimpleName()).append(' ').append(method.getName()).append('(');
        for (int i = 0; i < method.getParameterCount(); i++) {
            text.append(i == 0 ? "" : ",").append(method.getParameterTypes()[i].getSimpleName());
        }
        text.append(')');
        for (Class<?> thrown : method.getExceptionTypes()) {
            text.append(' ').append(thrown.getSimpleName());
        }
        return text.toString();
    }

    private static void fields(Class<?> owner) {
        int ownFields = 0;
        for (Field field : owner.getDeclaredFields()) {
            int modifiers = field.getModifiers();
            if (Modifier.isStatic(modifiers)) {
                Due.dueTrue(field + " is final", Modifier.isFinal(modifiers));
            } else {
                ownFields++;
            }
            boolean isNone = owner == MergeGraphs.class && field.getName().equals("NONE") && Modifier.isPublic(modifiers);
            Due.dueTrue(field + " is private", isNone || Modifier.isPrivate(modifiers));
        }
        Due.dueTrue(owner + " has twenty fields at most", ownFields <= 20);
    }

    private static void constructors() {
        Constructor<?>[] all = MergeGraphs.class.getDeclaredConstructors();
        Due.due("constructors", 1, () -> all.length);
        Due.dueTrue("it is public, without parameters",
            Modifier.isPublic(all[0].getModifiers()) && all[0].getParameterCount() == 0);
    }

    private static void classesInside() {
        Class<?>[] inside = MergeGraphs.class.getDeclaredClasses();
        Due.dueTrue("twelve classes at most", inside.length < 12);
        for (Class<?> one : inside) {
            Due.dueTrue(one + " is static", Modifier.isStatic(one.getModifiers()));
            Due.dueTrue(one + " is not public", (one.getModifiers() & (Modifier.PUBLIC | Modifier.PROTECTED)) == 0);
            fields(one);
        }
    }
}
