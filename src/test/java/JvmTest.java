import java.lang.reflect.Field;
import java.lang.reflect.InvocationTargetException;
import java.lang.reflect.Method;
import java.util.ArrayList;
import java.util.List;
import java.util.Random;

/**
 * Promises 10 to 17 once more: the same methods run here and by the Java machine itself, which has its own
 * names for the errors. Both must give the same results, errors, fields and elements.
 */
public final class JvmTest {
    private static final String[] ERRORS = {"DivideError", "NullError", "IndexError", "SizeError"};
    private static final String[] JAVA_ERRORS = {"java/lang/ArithmeticException", "java/lang/NullPointerException",
        "java/lang/ArrayIndexOutOfBoundsException", "java/lang/NegativeArraySizeException"};

    private static final class Loader extends ClassLoader {
        Class<?> define(byte[] bytes) {
            return defineClass("Own", bytes, 0, bytes.length);
        }
    }

    private static int[] outcomes = new int[5];
    private static int[] errors = new int[4];

    private CodeMachine here;
    private Method[] methods;
    private Field[] fields;
    private RandomProgram program;
    private final List<Object> arrays = new ArrayList<>(); // by their number here

    public static void main(String[] args) throws Exception {
        int programs = args.length > 0 ? Integer.parseInt(args[0]) : 600;
        long from = args.length > 1 ? Long.parseLong(args[1]) : 0;
        for (long seed = from; seed < from + programs; seed++) {
            new JvmTest().compare(seed);
        }
        System.out.println("returned " + outcomes[0] + ", errors " + outcomes[1] + " (" + errors[0] + ", " + errors[1] + ", "
            + errors[2] + ", " + errors[3] + "), no fuel " + outcomes[2] + ", too many elements " + outcomes[4]);
        Due.is("runs returned", true, outcomes[0] > programs);
        for (int count : errors) {
            Due.is("each error ended runs", true, count > 0);
        }
        Due.close();
    }

    private void compare(long seed) throws Exception {
        program = new RandomProgram(seed, "Above", ERRORS);
        byte[] bytes = program.maker().make();
        here = new CodeMachine();
        Due.feed(here, bytes);
        int rule = here.load();
        Due.is("program " + seed + ": load()", true, rule == 0 || rule == 13);
        if (rule == 13 || bytes.length > 9000) {
            // Now and then a program gets longer than rule 13 lets it be.
            return;
        }
        Class<?> there = new Loader().define(new RandomProgram(seed, "java/lang/Object", JAVA_ERRORS).maker().make());
        methods = new Method[program.methodTypes.length];
        for (Method method : there.getDeclaredMethods()) {
            methods[Integer.parseInt(method.getName().substring(1))] = method;
        }
        fields = new Field[program.fieldTypes.length];
        for (int k = 0; k < fields.length; k++) {
            fields[k] = there.getDeclaredField("f" + k);
        }
        arrays.add(null);
        Random random = new Random(seed);
        for (int n = 0; n < 8; n++) {
            if (!runBoth("program " + seed + ", run " + n, random.nextInt(methods.length), random)) {
                break;
            }
        }
        Due.is("program " + seed + ": strays()", 0, here.strays());
    }

    private boolean runBoth(String what, int m, Random random) throws Exception {
        Class<?>[] types = methods[m].getParameterTypes();
        Object[] arguments = new Object[types.length];
        for (int n = 0; n < types.length; n++) {
            arguments[n] = argument(types[n], random);
        }
        int outcome = here.run(m, 50000);
        Due.is(what + ": run()", true, outcome == 0 || outcome == 1 || outcome == 2 || outcome == 4);
        outcomes[outcome]++;
        if (outcome > 1) {
            return false;
        }
        try {
            Object result = methods[m].invoke(null, arguments);
            Due.is(what + ": run()", 0, outcome);
            same(what, methods[m].getReturnType(), result, here.result());
        } catch (InvocationTargetException failure) {
            Due.is(what + ": run()", 1, outcome);
            Due.is(what + ": error()", errorOf(failure.getCause()), here.error());
            errors[Math.max(0, here.error())]++;
        }
        for (int k = 0; k < fields.length; k++) {
            same(what + ": field " + k, fields[k].getType(), fields[k].get(null), here.field(k));
        }
        for (int a = 1; a < arrays.size(); a++) {
            if (arrays.get(a) != null) {
                sameElements(what, (int[]) arrays.get(a), a);
            }
        }
        return true;
    }

    private Object argument(Class<?> type, Random random) {
        if (type == int.class) {
            int v = random.nextInt(3) == 0 ? random.nextInt() : random.nextInt(5) - 1;
            here.argument(v + ((long) random.nextInt(3) << 32));
            return v;
        }
        if (type == long.class) {
            long v = random.nextInt(3) == 0 ? random.nextLong() : random.nextInt(5) - 1;
            here.argument(v);
            return v;
        }
        int a = random.nextInt(arrays.size());
        if (arrays.get(a) == null) {
            a = 0;
        }
        here.argument(a);
        return arrays.get(a);
    }

    private static int errorOf(Throwable failure) {
        for (int e = 0; e < JAVA_ERRORS.length; e++) {
            if (failure.getClass().getName().equals(JAVA_ERRORS[e].replace('/', '.'))) {
                return e;
            }
        }
        throw new IllegalStateException(failure);
    }

    /** The value of the Java machine, and the one here. */
    private void same(String what, Class<?> type, Object there, long value) {
        if (type == int[].class) {
            if (there == null) {
                Due.is(what + " is null", 0, value);
            } else {
                knowArray(what, (int[]) there, (int) value);
            }
        } else {
            Due.is(what, type == void.class ? 0 : ((Number) there).longValue(), value);
        }
    }

    private void knowArray(String what, int[] there, int number) {
        Due.is(what + " is an array", true, number > 0);
        while (arrays.size() <= number) {
            arrays.add(null);
        }
        if (number > 0) {
            Due.is(what + " is the same array", true, arrays.get(number) == null || arrays.get(number) == there);
            arrays.set(number, there);
            sameElements(what, there, number);
        }
    }

    private void sameElements(String what, int[] there, int number) {
        Due.is(what + ": arrayLength(" + number + ")", there.length, here.arrayLength(number));
        for (int i = 0; i < there.length; i++) {
            Due.is(what + ": element(" + number + ", " + i + ")", there[i], here.element(number, i));
        }
    }
}
