import java.lang.reflect.InvocationTargetException;
import java.lang.reflect.Method;
import java.util.Arrays;
import java.util.Random;

/** Runs of calls, the same each time, answered by the class and by the model of the document. */
public final class ModelTest {
    private static final int RUNS = 400;
    private static final int CALLS = 512;
    private static final String[] NAMES = {
        "wind", "vane", "mill", "set", "bring", "takeBack", "pass", "append", "clearBuffer", "firstError", "load",
        "keep", "goBack", "undo", "hourOf", "vaneOf", "millOf", "ownerOf", "count", "setting", "doneIn", "ifPassed",
        "turnsIn", "mainVane", "turnShare", "digest",
    };
    private static final int KINDS = NAMES.length;
    private static final Method[] OF_CLASS = methodsOf(VaneVotes.class);
    private static final Method[] OF_MODEL = methodsOf(Model.class);
    private static final Class<?>[] EXCEPTIONS = {
        IndexOutOfBoundsException.class, IllegalArgumentException.class, IllegalStateException.class,
    };
    private static final int VANE = kindOf("vane");
    private static final int SET = kindOf("set");
    private static final int BRING = kindOf("bring");
    private static final int PASS = kindOf("pass");
    private static final int APPEND = kindOf("append");
    private static final int CLEAR_BUFFER = kindOf("clearBuffer");
    private static final int FIRST_ERROR = kindOf("firstError");
    private static final int LOAD = kindOf("load");
    private static final int KEEP = kindOf("keep");
    private static final int DIGEST = kindOf("digest");
    private static final long THREW = 1L << 40;

    private static final Checks CHECKS = new Checks();

    public static void main(String[] args) {
        for (int run = 0; run < RUNS; run++) {
            CHECKS.begin("run " + run);
            oneRun(new Random(run), run % 6);
        }
        CHECKS.end();
    }

    /** Of most runs one kind of calls comes more often, so that full rows and long texts come up too. */
    private static void oneRun(Random random, int manner) {
        VaneVotes object = new VaneVotes();
        Model model = new Model();
        int calls = 0;
        while (calls + 61 < CALLS) {
            if (manner == 1 && random.nextInt(8) == 0) {
                calls += text(object, model, random);
                continue;
            }
            int kind = kindFor(random, manner);
            int[] with = arguments(kind, random);
            compare(object, model, kind, with);
            calls++;
            if (random.nextInt(6) == 0) {
                compare(object, model, DIGEST, with);
                calls++;
            }
        }
        compare(object, model, DIGEST, new int[3]);
    }

    private static int kindFor(Random random, int manner) {
        if (random.nextInt(3) == 0) {
            switch (manner) {
                case 2: return BRING;
                case 3: return random.nextBoolean() ? PASS : BRING;
                case 4: return KEEP + random.nextInt(3);
                case 5: return random.nextBoolean() ? VANE : SET;
                default: break;
            }
        }
        return random.nextInt(KINDS);
    }

    /** A text of winds, now and then with a character that is wrong, and what is read of it. */
    private static int text(VaneVotes object, Model model, Random random) {
        StringBuilder text = new StringBuilder();
        int winds = 1 + random.nextInt(7);
        for (int i = 0; i < winds; i++) {
            text.append(i == 0 ? "" : ";").append(random.nextInt(24)).append('=');
            text.append(random.nextInt(8)).append(random.nextInt(10));
        }
        if (random.nextInt(3) == 0) {
            text.setCharAt(random.nextInt(text.length()), "0123456789=;x".charAt(random.nextInt(13)));
        }
        compare(object, model, CLEAR_BUFFER, new int[3]);
        for (int i = 0; i < text.length(); i++) {
            compare(object, model, APPEND, new int[] {text.charAt(i), 0, 0});
        }
        compare(object, model, FIRST_ERROR, new int[3]);
        compare(object, model, LOAD, new int[3]);
        return text.length() + 3;
    }

    private static int[] arguments(int kind, Random random) {
        int[] bounds = boundsOf(NAMES[kind], random);
        int[] with = new int[3];
        for (int i = 0; i < 3; i++) {
            with[i] = random.nextInt(bounds[i]);
        }
        if (random.nextInt(12) == 0) {
            int[] odd = {-1, bounds[0], bounds[1], bounds[2], Integer.MIN_VALUE, Integer.MAX_VALUE};
            with[random.nextInt(3)] = odd[random.nextInt(odd.length)];
        }
        return with;
    }

    /** The arguments are below these, so that the most calls are good ones. */
    private static int[] boundsOf(String name, Random random) {
        switch (name) {
            case "wind": return new int[] {24, 8, 10};
            case "vane": return new int[] {6, 4, random.nextBoolean() ? 2 : 10};
            case "mill": return new int[] {3, 10, 1};
            case "set": return new int[] {2, random.nextBoolean() ? 2 : 7, 1};
            case "bring": return new int[] {5, random.nextBoolean() ? 1 : 3, random.nextBoolean() ? 5 : 100};
            case "takeBack": return new int[] {3, 1, 1};
            case "pass": return new int[] {random.nextBoolean() ? 4 : 100, 1, 1};
            case "append": return new int[] {127, 1, 1};
            case "keep": case "goBack": case "setting": return new int[] {2, 1, 1};
            case "hourOf": return new int[] {24, 5, 1};
            case "vaneOf": return new int[] {6, 6, 1};
            case "millOf": return new int[] {3, 6, 1};
            case "ownerOf": return new int[] {5, 4, 1};
            case "count": return new int[] {9, 1, 1};
            case "doneIn": return new int[] {3, 2, 1};
            case "ifPassed": return new int[] {5, 100, 1};
            default: return new int[] {1, 1, 1};
        }
    }

    private static int kindOf(String name) {
        return Arrays.asList(NAMES).indexOf(name);
    }

    private static void compare(VaneVotes object, Model model, int kind, int[] with) {
        long got = answer(object, OF_CLASS[kind], with);
        long want = answer(model, OF_MODEL[kind], with);
        CHECKS.due(NAMES[kind] + " with the first of " + Arrays.toString(with), got, want);
    }

    private static Method[] methodsOf(Class<?> type) {
        Method[] methods = new Method[KINDS];
        for (Method method : type.getDeclaredMethods()) {
            int kind = Arrays.asList(NAMES).indexOf(method.getName());
            if (kind >= 0) {
                methods[kind] = method;
            }
        }
        return methods;
    }

    /** What the call answered, or a number for what it threw. */
    private static long answer(Object object, Method method, int[] with) {
        Object[] arguments = new Object[method.getParameterCount()];
        for (int i = 0; i < arguments.length; i++) {
            arguments[i] = with[i];
        }
        try {
            Object got = method.invoke(object, arguments);
            return got instanceof Double ? Double.doubleToRawLongBits((Double) got) : ((Number) got).longValue();
        } catch (InvocationTargetException e) {
            int index = Arrays.asList(EXCEPTIONS).indexOf(e.getCause().getClass());
            CHECKS.dueTrue(method + " threw " + e.getCause() + ", which the document never names", index >= 0);
            return THREW + index;
        } catch (IllegalAccessException e) {
            throw new IllegalStateException(e);
        }
    }
}
