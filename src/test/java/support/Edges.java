import java.lang.reflect.Method;
import java.lang.reflect.Modifier;
import java.util.ArrayList;
import java.util.Comparator;
import java.util.List;

/** Runs the tests of boundary cases: one method a sentence of the document, as BOUNDARIES.md lists them. */
final class Edges {
    private Edges() {
    }

    /** The tests of a class: its static methods without parameters and answer. */
    static List<Method> of(Class<?> tests) {
        List<Method> found = new ArrayList<>();
        for (Method m : tests.getDeclaredMethods()) {
            boolean asked = m.getParameterCount() == 0 && m.getReturnType() == void.class;
            if (asked && Modifier.isStatic(m.getModifiers()) && !m.isSynthetic()) {
                found.add(m);
            }
        }
        found.sort(Comparator.comparing(Method::getName));
        return found;
    }

    /** Runs each of them; one that asks nothing is wrong. */
    static void run(Class<?> tests) throws ReflectiveOperationException {
        for (Method m : of(tests)) {
            int asked = Check.asked();
            int wrong = Check.wrong();
            m.setAccessible(true);
            m.invoke(null);
            Check.due(m.getName() + " asks something", Check.asked() > asked, true);
            if (Check.wrong() > wrong) {
                System.out.println("  in " + tests.getName() + "." + m.getName());
            }
        }
        Check.close(tests.getName());
    }
}
