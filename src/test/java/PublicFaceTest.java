import java.lang.reflect.Constructor;
import java.lang.reflect.Field;
import java.lang.reflect.Member;
import java.lang.reflect.Method;
import java.lang.reflect.Modifier;
import java.util.Arrays;
import java.util.TreeSet;
import java.util.Set;

/** "The public face": the class, its constant, constructor and methods as they are written there, and nothing else. */
public final class PublicFaceTest {
    private static final String[] METHODS = {
        "boolean feed(int, int, int, int, int)", "boolean end(int)", "int read()", "int fault(int)",
        "int size(boolean, int)", "int method(boolean, int, int, int)", "int type(int, int, int)", "int entry(int)",
        "int shrink(int) throws IllegalArgumentException, IllegalStateException", "int out(int)",
        "int kept(int, int, int)", "int made(int)", "int origin(int, int, int)",
        "int run(boolean, int, int) throws IllegalStateException, IllegalArgumentException", "int result(int)",
        "int output(int)", "int trace(int)", "int back(int)", "boolean again()"};

    public static void main(String[] args) throws ReflectiveOperationException {
        Class<?> face = ShrinkHouse.class;
        Kit.due("the class", Modifier.toString(face.getModifiers()), "public final");
        Kit.due("what it is", face.getSuperclass().getName() + face.getInterfaces().length, "java.lang.Object0");
        Field none = face.getDeclaredField("NONE");
        Kit.due("NONE", Modifier.toString(none.getModifiers()) + " " + none.getType(), "public static final int");
        Kit.due("its value", none.getInt(null), -1);
        Constructor<?>[] constructors = face.getDeclaredConstructors();
        Kit.due("constructors", constructors.length, 1);
        Kit.due("it takes", constructors[0].getParameterCount(), 0);
        Kit.due("it throws", constructors[0].getExceptionTypes().length, 0);
        Kit.due("it is", Modifier.toString(constructors[0].getModifiers()), "public");
        methods(face);
        nothingElse(face);
        Kit.finish();
    }

    private static void methods(Class<?> face) {
        Set<String> found = new TreeSet<>();
        for (Method method : face.getDeclaredMethods()) {
            if (Modifier.isPublic(method.getModifiers())) {
                Kit.due(method.getName(), Modifier.toString(method.getModifiers()), "public");
                found.add(written(method));
            }
        }
        Kit.due("methods", found.toString(), new TreeSet<>(Arrays.asList(METHODS)).toString());
    }

    private static String written(Method method) {
        String thrown = names(method.getExceptionTypes());
        return method.getReturnType() + " " + method.getName() + "(" + names(method.getParameterTypes()) + ")"
                + (thrown.isEmpty() ? "" : " throws " + thrown);
    }

    private static String names(Class<?>[] types) {
        StringBuilder text = new StringBuilder();
        for (Class<?> type : types) {
            text.append(text.length() == 0 ? "" : ", ").append(type.getSimpleName());
        }
        return text.toString();
    }

    private static void nothingElse(Class<?> face) {
        for (Method method : face.getDeclaredMethods()) {
            dueHidden(method, Modifier.isPublic(method.getModifiers()));
        }
        for (Field field : face.getDeclaredFields()) {
            dueHidden(field, field.getName().equals("NONE"));
        }
        for (Class<?> inside : face.getDeclaredClasses()) {
            boolean open = Modifier.isPublic(inside.getModifiers()) || Modifier.isProtected(inside.getModifiers());
            Kit.due(inside.getName() + " is not open", open, false);
        }
    }

    private static void dueHidden(Member member, boolean told) {
        Kit.due(member.getName() + " is private, if it is not told", told || member.isSynthetic()
                || Modifier.isPrivate(member.getModifiers()), true);
    }
}
