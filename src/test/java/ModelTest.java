import java.util.Random;

/** Runs of calls, the same each time, answered by the class and by the model of the document. */
public final class ModelTest {
    private static final int RUNS = 400;
    private static final int CALLS = 512;
    private static final int KINDS = 26;
    private static final long THREW = 1L << 40;

    private static final Checks CHECKS = new Checks();

    public static void main(String[] args) {
        for (int run = 0; run < RUNS; run++) {
            CHECKS.begin("run " + run);
            oneRun(new Random(run), run % 6);
        }
        CHECKS.end();
    }

    /** Of most runs one kind of calls comes more often, so that full rows and long texts come up too. */
    private static void oneRun(Random random, int manner) {
        VaneVotes object = new VaneVotes();
        Model model = new Model();
        int calls = 0;
        while (calls + 61 < CALLS) {
            if (manner == 1 && random.nextInt(8) == 0) {
                calls += text(object, model, random);
                continue;
            }
            int kind = kindFor(random, manner);
            int[] with = arguments(kind, random);
            compare(object, model, kind, with);
            calls++;
            if (random.nextInt(6) == 0) {
                compare(object, model, 25, with);
                calls++;
            }
        }
        compare(object, model, 25, new int[3]);
    }

    private static int kindFor(Random random, int manner) {
        if (random.nextInt(3) == 0) {
            switch (manner) {
                case 2: return 4;
                case 3: return random.nextBoolean() ? 6 : 4;
                case 4: return 11 + random.nextInt(3);
                case 5: return random.nextBoolean() ? 1 : 3;
                default: break;
            }
        }
        return random.nextInt(KINDS);
    }

    /** A text of winds, now and then with a character that is wrong, and what is read of it. */
    private static int text(VaneVotes object, Model model, Random random) {
        StringBuilder text = new StringBuilder();
        int winds = 1 + random.nextInt(7);
        for (int i = 0; i < winds; i++) {
            text.append(i == 0 ? "" : ";").append(random.nextInt(24)).append('=');
            text.append(random.nextInt(8)).append(random.nextInt(10));
        }
        if (random.nextInt(3) == 0) {
            text.setCharAt(random.nextInt(text.length()), "0123456789=;x".charAt(random.nextInt(13)));
        }
        compare(object, model, 8, new int[3]);
        for (int i = 0; i < text.length(); i++) {
            compare(object, model, 7, new int[] {text.charAt(i), 0, 0});
        }
        compare(object, model, 9, new int[3]);
        compare(object, model, 10, new int[3]);
        return text.length() + 3;
    }

    private static int[] arguments(int kind, Random random) {
        int[] bounds;
        switch (kind) {
            case 0: bounds = new int[] {24, 8, 10}; break;
            case 1: bounds = new int[] {6, 4, random.nextBoolean() ? 2 : 10}; break;
            case 2: bounds = new int[] {3, 10, 1}; break;
            case 3: bounds = new int[] {2, random.nextBoolean() ? 2 : 7, 1}; break;
            case 4: bounds = new int[] {5, random.nextBoolean() ? 1 : 3, random.nextBoolean() ? 5 : 100}; break;
            case 5: bounds = new int[] {3, 1, 1}; break;
            case 6: bounds = new int[] {random.nextBoolean() ? 4 : 100, 1, 1}; break;
            case 7: bounds = new int[] {127, 1, 1}; break;
            case 11: case 12: case 19: bounds = new int[] {2, 1, 1}; break;
            case 14: bounds = new int[] {24, 5, 1}; break;
            case 15: bounds = new int[] {6, 6, 1}; break;
            case 16: bounds = new int[] {3, 6, 1}; break;
            case 17: bounds = new int[] {5, 4, 1}; break;
            case 18: bounds = new int[] {9, 1, 1}; break;
            case 20: bounds = new int[] {3, 2, 1}; break;
            case 21: bounds = new int[] {5, 100, 1}; break;
            default: bounds = new int[] {1, 1, 1}; break;
        }
        int[] with = new int[3];
        for (int i = 0; i < 3; i++) {
            with[i] = random.nextInt(bounds[i]);
        }
        if (random.nextInt(12) == 0) {
            int[] odd = {-1, bounds[0], bounds[1], bounds[2], Integer.MIN_VALUE, Integer.MAX_VALUE};
            with[random.nextInt(3)] = odd[random.nextInt(odd.length)];
        }
        return with;
    }

    private static void compare(VaneVotes object, Model model, int kind, int[] with) {
        long got = answer(object, kind, with[0], with[1], with[2]);
        long want = answer(model, kind, with[0], with[1], with[2]);
        CHECKS.due("kind " + kind + " with " + with[0] + ", " + with[1] + ", " + with[2], got, want);
    }

    private static long thrown(RuntimeException e) {
        return THREW + (e.getClass() == IndexOutOfBoundsException.class ? 1
            : e.getClass() == IllegalArgumentException.class ? 2
            : e.getClass() == IllegalStateException.class ? 3 : 4);
    }

    private static long answer(VaneVotes x, int kind, int a, int b, int c) {
        try {
            switch (kind) {
                case 0: return x.wind(a, b, c);
                case 1: return x.vane(a, b, c);
                case 2: return x.mill(a, b);
                case 3: return x.set(a, b);
                case 4: return x.bring(a, b, c);
                case 5: return x.takeBack(a);
                case 6: return x.pass(a);
                case 7: return x.append(a);
                case 8: return x.clearBuffer();
                case 9: return x.firstError();
                case 10: return x.load();
                case 11: return x.keep(a);
                case 12: return x.goBack(a);
                case 13: return x.undo();
                case 14: return x.hourOf(a, b);
                case 15: return x.vaneOf(a, b);
                case 16: return x.millOf(a, b);
                case 17: return x.ownerOf(a, b);
                case 18: return x.count(a);
                case 19: return x.setting(a);
                case 20: return x.doneIn(a, b);
                case 21: return x.ifPassed(a, b);
                case 22: return x.turnsIn();
                case 23: return x.mainVane();
                case 24: return Double.doubleToLongBits(x.turnShare());
                default: return x.digest();
            }
        } catch (RuntimeException e) {
            return thrown(e);
        }
    }

    private static long answer(Model x, int kind, int a, int b, int c) {
        try {
            switch (kind) {
                case 0: return x.wind(a, b, c);
                case 1: return x.vane(a, b, c);
                case 2: return x.mill(a, b);
                case 3: return x.set(a, b);
                case 4: return x.bring(a, b, c);
                case 5: return x.takeBack(a);
                case 6: return x.pass(a);
                case 7: return x.append(a);
                case 8: return x.clearBuffer();
                case 9: return x.firstError();
                case 10: return x.load();
                case 11: return x.keep(a);
                case 12: return x.goBack(a);
                case 13: return x.undo();
                case 14: return x.hourOf(a, b);
                case 15: return x.vaneOf(a, b);
                case 16: return x.millOf(a, b);
                case 17: return x.ownerOf(a, b);
                case 18: return x.count(a);
                case 19: return x.setting(a);
                case 20: return x.doneIn(a, b);
                case 21: return x.ifPassed(a, b);
                case 22: return x.turnsIn();
                case 23: return x.mainVane();
                case 24: return Double.doubleToLongBits(x.turnShare());
                default: return x.digest();
            }
        } catch (RuntimeException e) {
            return thrown(e);
        }
    }
}
