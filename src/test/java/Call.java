import java.lang.reflect.InvocationTargetException;
import java.lang.reflect.Method;
import java.util.Arrays;

/** A call of the face, with numbers as its arguments, that any object with a method of that name can be asked. */
record Call(String name, int... arguments) {
    /** The answer as a text, or "throws" and the exception's name. */
    String of(Object x) {
        try {
            return String.valueOf(method(x.getClass()).invoke(x, Arrays.stream(arguments).boxed().toArray()));
        } catch (InvocationTargetException e) {
            return "throws " + Check.name(e.getCause()).replace("java.lang.", "");
        } catch (IllegalAccessException e) {
            throw new AssertionError(e);
        }
    }

    Class<?> answerType() {
        return method(LiftFactors.class).getReturnType();
    }

    private Method method(Class<?> type) {
        for (Method method : type.getDeclaredMethods()) {
            if (method.getName().equals(name) && method.getParameterCount() == arguments.length) {
                return method;
            }
        }
        throw new AssertionError("no call " + this);
    }

    @Override
    public String toString() {
        String list = Arrays.toString(arguments);
        return name + "(" + list.substring(1, list.length() - 1) + ")";
    }
}
