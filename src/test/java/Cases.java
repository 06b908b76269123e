import java.lang.reflect.InvocationTargetException;
import java.lang.reflect.Method;
import java.util.ArrayList;
import java.util.Comparator;
import java.util.List;

/** Runs each case of a test by itself, so that one sentence that is broken is told by the name of its case. */
final class Cases {
    private Cases() {
    }

    static void run(Class<?> test) {
        for (Method one : of(test)) {
            Due.begin(one.getName());
            try {
                one.invoke(null);
            } catch (InvocationTargetException thrown) {
                Due.is("throws " + thrown.getCause(), 1, 0);
            } catch (IllegalAccessException hidden) {
                throw new IllegalStateException(hidden);
            }
            Due.isNotEmpty();
        }
        Due.end();
    }

    static List<Method> of(Class<?> test) {
        List<Method> cases = new ArrayList<>();
        for (Method one : test.getDeclaredMethods()) {
            if (one.isAnnotationPresent(Says.class)) {
                cases.add(one);
            }
        }
        cases.sort(Comparator.comparing(Method::getName));
        return cases;
    }
}
