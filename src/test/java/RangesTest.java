import java.util.ArrayList;
import java.util.List;

/**
 * Each argument of each call: its least and its most are taken, what is beyond is refused with the exception of
 * the document and changes nothing, and of several exceptions the one that the throws clause names first comes.
 */
public final class RangesTest {
    private interface Use {
        long with(VaneVotes x, int[] arguments);
    }

    /** The name begins with that of the call; a row for each argument: its least, its most. */
    private record Kind(String name, Use use, Class<?>[] thrown, int[][] ranges) {
    }

    private static final Class<?> INDEX = Checks.INDEX;
    private static final Class<?> ARGUMENT = Checks.ARGUMENT;
    private static final Checks C = new Checks();
    private static final List<Kind> KINDS = new ArrayList<>();

    public static void main(String[] args) {
        changes();
        looks();
        for (Kind kind : KINDS) {
            C.test(kind.name + ", in range", () -> leastAndMost(kind));
            C.test(kind.name + ", out of range", () -> beyond(kind));
            C.test(kind.name + ", several exceptions", () -> firstNamed(kind));
        }
        C.end();
    }

    private static Class<?>[] thrown(Class<?>... classes) {
        return classes;
    }

    private static void add(String name, Use use, Class<?>[] thrown, int[]... ranges) {
        KINDS.add(new Kind(name, use, thrown, ranges));
    }

    private static int[] from(int least, int most) {
        return new int[] {least, most};
    }

    private static void changes() {
        add("promise 2: wind", (x, a) -> x.wind(a[0], a[1], a[2]), thrown(INDEX, ARGUMENT, ARGUMENT),
            from(0, 23), from(0, 7), from(0, 9));
        add("promise 3: vane, what", (x, a) -> x.vane(a[0], a[1], 0), thrown(INDEX, ARGUMENT), from(0, 5), from(0, 3));
        int[] most = {7, 4, 9, 1};
        for (int i = 0; i < 4; i++) {
            int what = i;
            add("promise 3: vane, value of " + what, (x, a) -> x.vane(a[0], what, a[1]), thrown(INDEX, ARGUMENT),
                from(0, 5), from(0, most[what]));
        }
        add("promise 4: mill", (x, a) -> x.mill(a[0], a[1]), thrown(INDEX, ARGUMENT), from(0, 2), from(0, 9));
        // 1 is in the range of both settings; -6, 8 and what is beyond are in none
        add("promise 5: set, which", (x, a) -> x.set(a[0], 1), thrown(INDEX), from(0, 1));
        add("promise 5: set, value and which", (x, a) -> x.set(a[0], 7 * a[1] + 1), thrown(INDEX, ARGUMENT),
            from(0, 1), from(0, 0));
        add("promise 5: set, quorum", (x, a) -> x.set(0, a[0]), thrown(ARGUMENT), from(1, 6));
        add("promise 5: set, half", (x, a) -> x.set(1, a[0]), thrown(ARGUMENT), from(0, 1));
        add("promise 6: bring", (x, a) -> x.bring(a[0], a[1], a[2]), thrown(INDEX, INDEX, ARGUMENT),
            from(0, 4), from(0, 2), from(1, 99));
        add("promise 7: takeBack", (x, a) -> x.takeBack(a[0]), thrown(INDEX), from(0, 2));
        add("promise 8: pass", (x, a) -> x.pass(a[0]), thrown(ARGUMENT), from(1, 99));
        add("promise 9: append", (x, a) -> x.append(a[0]), thrown(ARGUMENT), from(33, 126));
        add("promise 13: keep", (x, a) -> x.keep(a[0]), thrown(ARGUMENT), from(0, 1));
        add("promise 14: goBack", (x, a) -> x.goBack(a[0]), thrown(ARGUMENT), from(0, 1));
    }

    private static void looks() {
        add("promise 16: hourOf", (x, a) -> x.hourOf(a[0], a[1]), thrown(INDEX, ARGUMENT), from(0, 23), from(0, 4));
        add("promise 17: vaneOf", (x, a) -> x.vaneOf(a[0], a[1]), thrown(INDEX, ARGUMENT), from(0, 5), from(0, 5));
        add("promise 18: millOf", (x, a) -> x.millOf(a[0], a[1]), thrown(INDEX, ARGUMENT), from(0, 2), from(0, 5));
        add("promise 19: ownerOf", (x, a) -> x.ownerOf(a[0], a[1]), thrown(INDEX, ARGUMENT), from(0, 4), from(0, 3));
        add("promise 20: count", (x, a) -> x.count(a[0]), thrown(ARGUMENT), from(0, 8));
        add("promise 21: setting", (x, a) -> x.setting(a[0]), thrown(INDEX), from(0, 1));
        add("promise 22: doneIn", (x, a) -> x.doneIn(a[0], a[1]), thrown(INDEX, ARGUMENT), from(0, 2), from(0, 1));
        add("promise 23: ifPassed", (x, a) -> x.ifPassed(a[0], a[1]), thrown(INDEX, ARGUMENT), from(0, 4), from(1, 99));
    }

    private static int[] beyond(int[] range) {
        return new int[] {range[0] - 1, range[1] + 1, -range[1] - 1, Integer.MIN_VALUE, Integer.MAX_VALUE};
    }

    private static int[] least(Kind kind) {
        int[] arguments = new int[kind.ranges.length];
        for (int i = 0; i < arguments.length; i++) {
            arguments[i] = kind.ranges[i][0];
        }
        return arguments;
    }

    private static String told(int[] arguments) {
        StringBuilder text = new StringBuilder();
        for (int argument : arguments) {
            text.append(text.length() == 0 ? "(" : ", ").append(argument);
        }
        return text.append(')').toString();
    }

    /** Each argument at its least or its most, in all ways: none throws. */
    private static void leastAndMost(Kind kind) {
        for (int way = 0; way < 1 << kind.ranges.length; way++) {
            int[] arguments = new int[kind.ranges.length];
            for (int i = 0; i < arguments.length; i++) {
                arguments[i] = kind.ranges[i][way >> i & 1];
            }
            try {
                kind.use.with(Villages.rich(), arguments);
            } catch (RuntimeException e) {
                C.report(told(arguments) + " threw " + e);
            }
        }
    }

    private static void beyond(Kind kind) {
        for (int i = 0; i < kind.ranges.length; i++) {
            for (int value : beyond(kind.ranges[i])) {
                int[] arguments = least(kind);
                arguments[i] = value;
                C.dueThrow(told(arguments), Villages::rich, kind.thrown[i], x -> kind.use.with(x, arguments));
            }
        }
    }

    /** The arguments stand in the order of their exceptions, so that the first that is wrong tells which. */
    private static void firstNamed(Kind kind) {
        for (int i = 0; i < kind.ranges.length; i++) {
            for (int j = i + 1; j < kind.ranges.length; j++) {
                for (int side = 0; side < 4; side++) {
                    int[] arguments = least(kind);
                    arguments[i] = beyond(kind.ranges[i])[side & 1];
                    arguments[j] = beyond(kind.ranges[j])[side >> 1];
                    C.dueThrow(told(arguments), Villages::rich, kind.thrown[i], x -> kind.use.with(x, arguments));
                }
            }
        }
    }
}
