import java.lang.reflect.InvocationTargetException;
import java.lang.reflect.Method;
import java.util.Map;
import java.util.TreeMap;

/** Runs each test of a class by itself, and tells by name which of them fail. */
final class Trial {
    private static String running = "";
    private static int wrong = 0;

    private Trial() {
    }

    /** A test is a method named by its promise's number: p08.. in Promise08Test. */
    static void runAll(Class<?> tests) {
        String number = "p" + tests.getSimpleName().substring("Promise".length(), "Promise".length() + 2);
        Map<String, Method> byName = new TreeMap<>();
        for (Method method : tests.getDeclaredMethods()) {
            if (method.getName().startsWith(number)) {
                byName.put(method.getName(), method);
            }
        }
        due("there are tests", !byName.isEmpty(), true);
        byName.values().forEach(Trial::run);
        System.out.println(wrong == 0 ? byName.size() + " tests: all answers are as due"
                : wrong + " answers are not as due");
        if (wrong != 0) {
            System.exit(1);
        }
    }

    private static void run(Method test) {
        running = test.getName();
        test.setAccessible(true);
        try {
            test.invoke(null);
        } catch (InvocationTargetException thrown) {
            due("throws", "" + thrown.getCause(), "nothing");
        } catch (IllegalAccessException hidden) {
            due("can be run", false, true);
        }
    }

    static void due(String what, Object got, Object want) {
        if (!got.equals(want)) {
            wrong++;
            System.out.println(running + ": " + what + " answered " + got + ", due is " + want);
        }
    }
}
