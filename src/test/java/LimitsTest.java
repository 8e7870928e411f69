import java.lang.reflect.InvocationTargetException;
import java.lang.reflect.Method;
import java.util.Arrays;

/** The edges of an object's use: its 512th call, and wrong numbers in every call. */
public final class LimitsTest {
    private static final Check check = new Check();
    private static final int[] WRONG = {Integer.MIN_VALUE, -1000001, -2, 256, 65536, Integer.MAX_VALUE};

    public static void main(String[] args) throws Exception {
        the512thCall();
        wrongNumbersChangeNothing(new KnotNames());
        wrongNumbersChangeNothing(Check.told("hulioulio;h;hul;"));
        wrongNumbersChangeNothing(fullOfAll());
        anythingAnywhere();
        check.end();
    }

    private static void the512thCall() {
        KnotNames x = Check.told("h;");
        // four calls so far: h, ;, camp() and the first of these
        for (int call = 4; call <= 509; call++) {
            check.due("call " + call, x.rate(5, 0), 0);
        }
        check.due("the 510th call", x.trace(), 506L * 100001);
        check.due("the 511th call", x.ties(0, 5), 1);
        check.due("the 512th call", x.undo(), 0);

        KnotNames deeds = new KnotNames();
        for (int call = 1; call <= 511; call++) {
            deeds.adds(call % 6);
        }
        check.due("the 512th call", deeds.now(3), 10);

        KnotNames tears = new KnotNames();
        for (int call = 1; call <= 510; call++) {
            check.due("tears()", tears.tears(), 0);
        }
        check.due("the 511th call", tears.now(3), 10);
        check.due("the 512th call", tears.undo(), 9);
    }

    private static KnotNames fullOfAll() {
        KnotNames x = Check.told("huuuuuuuu;hllllllll;hiiiiiiii;hoooooooo;hrrrrrrrr;hdddddddd;");
        for (int h = 0; h < 6; h++) {
            for (int k = 0; k < 4; k++) {
                x.ties(h, x.name(h, 0));
            }
        }
        Check.adds(x, "uliulidrodro");
        x.keep(0);
        x.keep(1);
        for (int i = 0; i < 200; i++) {
            x.type('h');
        }
        return x;
    }

    /** Each number of each call is made wrong in turn, while the others are right. */
    private static void wrongNumbersChangeNothing(KnotNames x) throws Exception {
        String before = state(x);
        for (Method method : KnotNames.class.getDeclaredMethods()) {
            if (!java.lang.reflect.Modifier.isPublic(method.getModifiers())) {
                continue;
            }
            for (int i = 0; i < method.getParameterCount(); i++) {
                for (int wrong : WRONG) {
                    Object[] numbers = new Object[method.getParameterCount()];
                    Arrays.fill(numbers, 1);
                    numbers[i] = wrong;
                    refuses(x, method, numbers);
                }
            }
        }
        check.due("the state behind wrong numbers", state(x), before);
    }

    private static void refuses(KnotNames x, Method method, Object[] numbers) throws Exception {
        String call = method.getName() + Arrays.toString(numbers);
        long got = ((Number) method.invoke(x, numbers)).longValue();
        if (method.getName().equals("lives") && (int) numbers[0] > 0) {
            // how far k goes is not told: there are not so many, or no rows at all
            check.due(call, got == -5 || got == KnotNames.NONE ? 1 : 0, 1);
            return;
        }
        check.due(call, got, method.getName().equals("rate") ? KnotNames.NO : KnotNames.BAD);
    }

    private static String state(KnotNames x) {
        return Check.all(x) + " " + x.now(3) + " " + x.count(1) + " " + x.trace();
    }

    /** No call throws, whatever its numbers, behind whatever other calls. */
    private static void anythingAnywhere() throws Exception {
        java.util.Random random = new java.util.Random(7);
        Method[] methods = KnotNames.class.getMethods();
        for (int run = 0; run < 200; run++) {
            KnotNames x = run % 3 == 0 ? new KnotNames() : run % 3 == 1 ? Check.told("hu;hl;hul;h;") : fullOfAll();
            for (int call = 0; call < 1000; call++) {
                Method method = methods[random.nextInt(methods.length)];
                if (method.getDeclaringClass() != KnotNames.class) {
                    continue;
                }
                Object[] numbers = new Object[method.getParameterCount()];
                for (int i = 0; i < numbers.length; i++) {
                    numbers[i] = random.nextInt(12) == 0 ? random.nextInt() : random.nextInt(16) - 2;
                }
                try {
                    method.invoke(x, numbers);
                } catch (InvocationTargetException thrown) {
                    check.due(method.getName() + Arrays.toString(numbers), "" + thrown.getCause(), "no throw");
                }
            }
        }
    }
}
