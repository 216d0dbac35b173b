import java.lang.reflect.Constructor;
import java.lang.reflect.Field;
import java.lang.reflect.Method;
import java.lang.reflect.Modifier;
import java.util.ArrayList;
import java.util.Arrays;
import java.util.Collections;
import java.util.List;

/** The public face: what the document's code block has, and nothing else that can be seen. */
public final class FaceTest {
    private static final String[] FACE = {
        "int poly() throws IllegalStateException",
        "boolean set(int,int,int) throws ArrayIndexOutOfBoundsException,IllegalArgumentException",
        "int at(int,int) throws ArrayIndexOutOfBoundsException",
        "int times(int,int) throws ArrayIndexOutOfBoundsException,IllegalStateException,IllegalArgumentException",
        "int over(int,int) throws ArrayIndexOutOfBoundsException,IllegalStateException,ArithmeticException",
        "int gcd(int,int) throws ArrayIndexOutOfBoundsException,IllegalStateException",
        "int run(int) throws ArrayIndexOutOfBoundsException,IllegalStateException",
        "int factor(int) throws ArrayIndexOutOfBoundsException",
        "int multiplicity(int) throws ArrayIndexOutOfBoundsException",
        "int content(int) throws ArrayIndexOutOfBoundsException",
        "int root(int,int,int) throws ArrayIndexOutOfBoundsException,IllegalArgumentException",
        "int roots(int) throws ArrayIndexOutOfBoundsException",
        "int parts(int,int) throws ArrayIndexOutOfBoundsException,IllegalArgumentException",
        "boolean squareFree(int) throws ArrayIndexOutOfBoundsException",
        "int value(int,int,int) throws ArrayIndexOutOfBoundsException,IllegalArgumentException",
        "int count()",
    };

    public static void main(String[] args) {
        Class<?> type = LiftFactors.class;
        Check.yes("public and final", Modifier.isPublic(type.getModifiers()) && Modifier.isFinal(type.getModifiers()));
        methods(type);
        for (Constructor<?> made : type.getDeclaredConstructors()) {
            Check.yes("constructor", Modifier.isPublic(made.getModifiers()) && made.getParameterCount() == 0);
        }
        for (Field field : type.getDeclaredFields()) {
            Check.yes("private: " + field.getName(), Modifier.isPrivate(field.getModifiers()));
            Check.yes("final if static: " + field.getName(),
                    !Modifier.isStatic(field.getModifiers()) || Modifier.isFinal(field.getModifiers()));
        }
        for (Class<?> inside : type.getDeclaredClasses()) {
            Check.yes("static: " + inside.getName(), Modifier.isStatic(inside.getModifiers()));
            namesAreApart(inside);
        }
        Check.end();
    }

    private static void methods(Class<?> type) {
        List<String> seen = new ArrayList<>();
        for (Method method : type.getDeclaredMethods()) {
            if (!Modifier.isPrivate(method.getModifiers())) {
                Check.yes("public: " + method.getName(), Modifier.isPublic(method.getModifiers()));
                seen.add(written(method));
            } else {
                Check.no("a private name of the face: " + method.getName(), isOfTheFace(method.getName()));
            }
        }
        List<String> due = new ArrayList<>(Arrays.asList(FACE));
        Collections.sort(seen);
        Collections.sort(due);
        Check.yes("the face is " + seen, seen.equals(due));
    }

    private static void namesAreApart(Class<?> inside) {
        for (Method method : inside.getDeclaredMethods()) {
            Check.no("a name of the face inside: " + method.getName(), isOfTheFace(method.getName()));
        }
    }

    private static boolean isOfTheFace(String name) {
        for (String line : FACE) {
            if (line.contains(" " + name + "(")) {
                return true;
            }
        }
        return false;
    }

    private static String written(Method method) {
        String line = method.getReturnType() + " " + method.getName() + "(" + names(method.getParameterTypes()) + ")";
        String thrown = names(method.getExceptionTypes());
        return thrown.isEmpty() ? line : line + " throws " + thrown;
    }

    private static String names(Class<?>[] types) {
        List<String> names = new ArrayList<>();
        for (Class<?> type : types) {
            names.add(type.getSimpleName());
        }
        return String.join(",", names);
    }
}
