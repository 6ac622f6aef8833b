import java.util.function.Consumer;
import java.util.function.Supplier;

/** Counts and prints the answers that are not the ones that are due. */
final class Checks {
    static final Class<?> INDEX = IndexOutOfBoundsException.class;
    static final Class<?> ARGUMENT = IllegalArgumentException.class;
    static final Class<?> STATE = IllegalStateException.class;

    /** A call that may throw. */
    interface Call {
        void run();
    }

    private int wrong = 0;
    private String part = "";

    void begin(String name) {
        part = name;
    }

    /** A test of its own for a sentence; what it throws unasked does not keep the other tests from running. */
    void test(String sentence, Call body) {
        begin(sentence);
        try {
            body.run();
        } catch (RuntimeException e) {
            report("threw " + e);
        }
    }

    void due(String call, long got, long want) {
        if (got != want) {
            report(call + " answered " + got + ", due is " + want);
        }
    }

    void dueDouble(String call, double got, double want) {
        if (Double.doubleToRawLongBits(got) != Double.doubleToRawLongBits(want)) {
            report(call + " answered " + got + ", due is " + want);
        }
    }

    void dueTrue(String what, boolean holds) {
        if (!holds) {
            report(what);
        }
    }

    /** The call throws just this exception, and changes nothing that the digest tells. */
    void dueThrow(String call, VaneVotes object, Class<?> want, Call run) {
        long before = object.digest();
        dueThrown(call, thrownBy(run), want);
        if (object.digest() != before) {
            report(call + " threw and changed something");
        }
    }

    /** The call throws just this exception, and changes nothing at all, slots and saved states among it. */
    void dueThrow(String call, Supplier<VaneVotes> maker, Class<?> want, Consumer<VaneVotes> use) {
        dueNoChange(call, maker, x -> dueThrown(call, thrownBy(() -> use.accept(x)), want));
    }

    void dueNoChange(String call, Supplier<VaneVotes> maker, Consumer<VaneVotes> use) {
        VaneVotes back = maker.get();
        use.accept(back);
        dueTrue(call + " changed something", Villages.wayBack(back).equals(Villages.wayBack(maker.get())));
        VaneVotes rows = maker.get();
        use.accept(rows);
        dueTrue(call + " changed a row of lots", Villages.rows(rows).equals(Villages.rows(maker.get())));
    }

    private void dueThrown(String call, Class<?> got, Class<?> want) {
        if (got != want) {
            report(call + " threw " + got + ", due is " + want);
        }
    }

    private static Class<?> thrownBy(Call run) {
        try {
            run.run();
        } catch (RuntimeException e) {
            return e.getClass();
        }
        return null;
    }

    void report(String text) {
        wrong++;
        if (wrong <= 40) {
            System.out.println(part + ": " + text);
        }
    }

    void end() {
        if (wrong > 0) {
            System.out.println(wrong + " wrong");
            System.exit(1);
        }
    }
}
