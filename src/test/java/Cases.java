import java.lang.reflect.InvocationTargetException;
import java.lang.reflect.Method;
import java.util.Arrays;
import java.util.Comparator;

/** Runs every case of a test class by itself, on a new object, so that none can be left out. */
final class Cases {
    private Cases() {
    }

    static void runAll(Class<?> test) {
        Due due = new Due();
        Method[] methods = test.getDeclaredMethods();
        Arrays.sort(methods, Comparator.comparing(Method::getName));
        for (Method method : methods) {
            if (method.isAnnotationPresent(Says.class)) {
                runOne(method, due);
            }
        }
        due.end();
    }

    private static void runOne(Method method, Due due) {
        String name = method.getName();
        int wrongBefore = due.wrongAnswers();
        try {
            method.setAccessible(true);
            Run run = new Run(name, due);
            method.invoke(null, run);
            run.close();
        } catch (InvocationTargetException | IllegalAccessException e) {
            due.isTrue(name + " threw " + e + " by " + e.getCause(), false);
        }
        if (due.wrongAnswers() > wrongBefore) {
            System.out.println("  .. which breaks: " + method.getAnnotation(Says.class).value());
        }
    }
}
