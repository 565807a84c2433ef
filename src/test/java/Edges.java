import java.lang.reflect.InvocationTargetException;
import java.lang.reflect.Method;
import java.util.ArrayList;
import java.util.Comparator;
import java.util.List;

/** Runs the tests of single sentences: static methods with {@link Says} that are handed a {@link Due}. */
final class Edges {
    private Edges() {
    }

    static List<Method> of(Class<?> tests) {
        List<Method> methods = new ArrayList<>();
        for (Method m : tests.getDeclaredMethods()) {
            if (m.isAnnotationPresent(Says.class)) {
                m.setAccessible(true);
                methods.add(m);
            }
        }
        methods.sort(Comparator.comparing((Method m) -> m.getAnnotation(Says.class).promise()).thenComparing(Method::getName));
        return methods;
    }

    static void run(Class<?> tests) throws IllegalAccessException {
        Due due = new Due(tests.getSimpleName());
        for (Method m : of(tests)) {
            Says says = m.getAnnotation(Says.class);
            due.begin("promise " + says.promise() + ", '" + String.join("' '", says.words()) + "', " + m.getName());
            try {
                m.invoke(null, due);
            } catch (InvocationTargetException e) {
                due.holds("threw " + e.getCause(), false);
            }
            due.holds("some answer was compared", due.hasCompared());
        }
        due.end();
    }
}
