import java.lang.reflect.InvocationTargetException;
import java.lang.reflect.Method;
import java.lang.reflect.Modifier;
import java.util.Arrays;
import java.util.Comparator;

/**
 * Runs the tests of a class one by one: each static method without parameters whose name has a '_' is
 * one. What stands before the '_' is the promise (p01 .. p26) or the section of the document, the
 * rest the sentence that it tests.
 */
final class Sentences {
    private Sentences() {
    }

    static void runAll(Class<?> tests, Due due) throws IllegalAccessException, InvocationTargetException {
        Method[] methods = tests.getDeclaredMethods();
        Arrays.sort(methods, Comparator.comparing(Method::getName));
        int count = 0;
        for (Method method : methods) {
            if (!isTest(method)) {
                continue;
            }
            due.topic(method.getName());
            int asked = due.asked();
            method.setAccessible(true);
            method.invoke(null);
            due.isTrue("it asks something", due.asked() > asked);
            count++;
        }
        System.out.println(count + " sentences");
        due.end();
    }

    private static boolean isTest(Method method) {
        return Modifier.isStatic(method.getModifiers()) && method.getParameterCount() == 0
                && method.getName().indexOf('_') > 0 && !method.isSynthetic();
    }
}
