import java.lang.reflect.InvocationTargetException;
import java.lang.reflect.Method;
import java.util.Arrays;
import java.util.HashMap;
import java.util.Map;

/** A call by its name, on LandLines or on the Model, so that a test can print which one it was. */
record Call(String name, long[] given) {
    private static final Map<String, Method> FOUND = new HashMap<>();

    static Call of(String name, long... given) {
        return new Call(name, given);
    }

    static int ask(Object x, String name, long... given) {
        return new Call(name, given).on(x);
    }

    int on(Object x) {
        Method method = FOUND.computeIfAbsent(x.getClass().getName() + " " + name + " " + given.length,
                key -> find(x.getClass()));
        Object[] boxed = new Object[given.length];
        for (int i = 0; i < given.length; i++) {
            if (method.getParameterTypes()[i] == long.class) {
                boxed[i] = given[i];
            } else {
                boxed[i] = Math.toIntExact(given[i]);
            }
        }
        try {
            return (int) method.invoke(x, boxed);
        } catch (InvocationTargetException thrown) {
            throw new IllegalStateException(this + " has thrown", thrown.getCause());
        } catch (ReflectiveOperationException hidden) {
            throw new IllegalStateException(this + " can not be asked", hidden);
        }
    }

    private Method find(Class<?> owner) {
        for (Method method : owner.getDeclaredMethods()) {
            if (method.getName().equals(name) && method.getParameterCount() == given.length) {
                return method;
            }
        }
        throw new IllegalStateException("there is no " + this);
    }

    /** The same call with another number in a place. */
    Call with(int place, long v) {
        long[] other = given.clone();
        other[place] = v;
        return new Call(name, other);
    }

    @Override
    public String toString() {
        String row = Arrays.toString(given);
        return name + "(" + row.substring(1, row.length() - 1) + ")";
    }
}
