/** Counts and prints the answers that are not the ones that are due. */
final class Checks {
    /** A call that may throw. */
    interface Call {
        void run();
    }

    private int wrong = 0;
    private String part = "";

    void begin(String name) {
        part = name;
    }

    void due(String call, long got, long want) {
        if (got != want) {
            report(call + " answered " + got + ", due is " + want);
        }
    }

    void dueDouble(String call, double got, double want) {
        if (Double.doubleToRawLongBits(got) != Double.doubleToRawLongBits(want)) {
            report(call + " answered " + got + ", due is " + want);
        }
    }

    void dueTrue(String what, boolean holds) {
        if (!holds) {
            report(what);
        }
    }

    /** The call throws just this exception, and changes nothing. */
    void dueThrow(String call, VaneVotes object, Class<?> want, Call run) {
        long before = object.digest();
        Class<?> got = null;
        try {
            run.run();
        } catch (RuntimeException e) {
            got = e.getClass();
        }
        if (got != want) {
            report(call + " threw " + got + ", due is " + want);
        }
        if (object.digest() != before) {
            report(call + " threw and changed something");
        }
    }

    void report(String text) {
        wrong++;
        if (wrong <= 40) {
            System.out.println(part + ": " + text);
        }
    }

    void end() {
        if (wrong > 0) {
            System.out.println(wrong + " wrong");
            System.exit(1);
        }
    }
}
