import java.util.ArrayDeque;
import java.util.ArrayList;
import java.util.List;
import java.util.regex.Matcher;
import java.util.regex.Pattern;

/**
 * The document once more, written without a thought for speed: whatever would be is tried on a copy of the
 * state, and texts are read by a regular expression.
 */
final class Model {
    private static final String WIND = "(?:0|1[0-9]?|2[0-3]?|[3-9])=[0-7][0-9]";
    private static final Pattern WINDS = Pattern.compile(WIND + "(?:;" + WIND + ")*");

    private static final class State {
        int clock;
        int gone;
        int turned;
        int refused;
        int[][] winds = new int[24][];
        int[][] vanes = new int[6][];
        int[] speeds = {2, 2, 2};
        int[] ground = new int[3];
        int[] settings = {3, 0};
        List<List<int[]>> lots = new ArrayList<>();
        int[] flour = new int[5];
        int[] brought = new int[5];
        int[] takenBack = new int[5];

        State copy() {
            State other = new State();
            other.clock = clock;
            other.gone = gone;
            other.turned = turned;
            other.refused = refused;
            for (int h = 0; h < 24; h++) {
                other.winds[h] = winds[h].clone();
            }
            for (int v = 0; v < 6; v++) {
                other.vanes[v] = vanes[v].clone();
            }
            other.speeds = speeds.clone();
            other.ground = ground.clone();
            other.settings = settings.clone();
            for (List<int[]> row : lots) {
                List<int[]> rowCopy = new ArrayList<>();
                for (int[] lot : row) {
                    rowCopy.add(lot.clone());
                }
                other.lots.add(rowCopy);
            }
            other.flour = flour.clone();
            other.brought = brought.clone();
            other.takenBack = takenBack.clone();
            return other;
        }

        boolean agrees(int v, int h) {
            int steps = 0;
            while ((vanes[v][0] + steps) % 8 != winds[h][0] && (winds[h][0] + steps) % 8 != vanes[v][0]) {
                steps++;
            }
            return steps <= vanes[v][1] && winds[h][1] >= vanes[v][2];
        }

        int committee() {
            int n = 0;
            for (int v = 0; v < 6; v++) {
                n += 1 - vanes[v][3];
            }
            return n;
        }

        int votes(int h) {
            int n = 0;
            for (int v = 0; v < 6; v++) {
                n += vanes[v][3] == 0 && agrees(v, h) ? 1 : 0;
            }
            return n;
        }

        int why(int h) {
            if (committee() < settings[0]) {
                return 1;
            }
            int against = committee() - votes(h);
            boolean enough = settings[1] == 1 ? votes(h) >= against : votes(h) > against;
            return enough ? 0 : 2;
        }

        int agreeing() {
            int n = 0;
            for (int h = 0; h < 24; h++) {
                n += why(h) == 0 ? 1 : 0;
            }
            return n;
        }

        int could(int m, int h) {
            return why(h) == 0 ? speeds[m] * winds[h][1] / 4 : 0;
        }

        int waiting(int m) {
            int n = 0;
            for (int[] lot : lots.get(m)) {
                n += lot[1];
            }
            return n;
        }

        int hourGoesBy() {
            int sum = 0;
            for (int m = 0; m < 3; m++) {
                for (int sack = could(m, clock); sack > 0 && !lots.get(m).isEmpty(); sack--) {
                    int[] first = lots.get(m).get(0);
                    first[1]--;
                    flour[first[0]]++;
                    ground[m]++;
                    sum++;
                    if (first[1] == 0) {
                        lots.get(m).remove(0);
                    }
                }
            }
            turned += why(clock) == 0 ? 1 : 0;
            gone++;
            clock = (clock + 1) % 24;
            return sum;
        }
    }

    private State now = new State();
    private final State[] slots = new State[2];
    private final ArrayDeque<State> saved = new ArrayDeque<>();
    private String text = "";

    Model() {
        for (int h = 0; h < 24; h++) {
            now.winds[h] = new int[] {h % 8, h % 10};
        }
        for (int v = 0; v < 6; v++) {
            now.vanes[v] = new int[] {v, 2, 1, 0};
        }
        for (int m = 0; m < 3; m++) {
            now.lots.add(new ArrayList<>());
        }
    }

    private static void index(boolean good) {
        if (!good) {
            throw new IndexOutOfBoundsException();
        }
    }

    private static void argument(boolean good) {
        if (!good) {
            throw new IllegalArgumentException();
        }
    }

    private static void state(boolean good) {
        if (!good) {
            throw new IllegalStateException();
        }
    }

    private static boolean in(int x, int least, int most) {
        return least <= x && x <= most;
    }

    private void save() {
        saved.addLast(now.copy());
        if (saved.size() == 7) {
            saved.removeFirst();
        }
    }

    int wind(int hour, int side, int strength) {
        index(in(hour, 0, 23));
        argument(in(side, 0, 7) && in(strength, 0, 9));
        save();
        int[] old = now.winds[hour];
        now.winds[hour] = new int[] {side, strength};
        return old[0] * 10 + old[1];
    }

    int vane(int vane, int what, int value) {
        index(in(vane, 0, 5));
        argument(in(what, 0, 3));
        argument(in(value, 0, what == 0 ? 7 : what == 1 ? 4 : what == 2 ? 9 : 1));
        save();
        int old = now.vanes[vane][what];
        now.vanes[vane][what] = value;
        return old;
    }

    int mill(int mill, int speed) {
        index(in(mill, 0, 2));
        argument(in(speed, 0, 9));
        save();
        int old = now.speeds[mill];
        now.speeds[mill] = speed;
        return old;
    }

    int set(int setting, int value) {
        index(in(setting, 0, 1));
        argument(setting == 0 ? in(value, 1, 6) : in(value, 0, 1));
        save();
        int old = now.settings[setting];
        now.settings[setting] = value;
        return old;
    }

    int bring(int owner, int mill, int sacks) {
        index(in(owner, 0, 4) && in(mill, 0, 2));
        argument(in(sacks, 1, 99));
        save();
        if (now.lots.get(mill).size() == 8) {
            now.refused++;
            return -1;
        }
        now.lots.get(mill).add(new int[] {owner, sacks});
        now.brought[owner] += sacks;
        return now.waiting(mill);
    }

    int takeBack(int mill) {
        index(in(mill, 0, 2));
        save();
        List<int[]> row = now.lots.get(mill);
        if (row.isEmpty()) {
            now.refused++;
            return -1;
        }
        int[] lot = row.remove(row.size() - 1);
        now.takenBack[lot[0]] += lot[1];
        return lot[1];
    }

    int pass(int hours) {
        argument(in(hours, 1, 99));
        state(now.gone + hours <= 99999);
        save();
        int sum = 0;
        for (int i = 0; i < hours; i++) {
            sum += now.hourGoesBy();
        }
        return sum;
    }

    int append(int code) {
        argument(in(code, 33, 126));
        state(text.length() < 60);
        text += (char) code;
        return text.length();
    }

    int clearBuffer() {
        int old = text.length();
        text = "";
        return old;
    }

    int firstError() {
        for (int i = 0; i < text.length(); i++) {
            Matcher matcher = WINDS.matcher(text.substring(0, i + 1));
            if (!matcher.matches() && !matcher.hitEnd()) {
                return i;
            }
        }
        return text.length();
    }

    int load() {
        argument(WINDS.matcher(text).matches());
        save();
        for (String wind : text.split(";")) {
            String[] sides = wind.split("=");
            now.winds[Integer.parseInt(sides[0])] = new int[] {sides[1].charAt(0) - '0', sides[1].charAt(1) - '0'};
        }
        text = "";
        return now.agreeing();
    }

    int keep(int slot) {
        argument(in(slot, 0, 1));
        slots[slot] = now.copy();
        return now.clock;
    }

    int goBack(int slot) {
        argument(in(slot, 0, 1));
        state(slots[slot] != null);
        save();
        now = slots[slot].copy();
        return now.clock;
    }

    int undo() {
        state(!saved.isEmpty());
        now = saved.removeLast();
        return saved.size();
    }

    int hourOf(int hour, int what) {
        index(in(hour, 0, 23));
        argument(in(what, 0, 4));
        int all = now.could(0, hour) + now.could(1, hour) + now.could(2, hour);
        return new int[] {now.winds[hour][0], now.winds[hour][1], now.votes(hour), now.why(hour), all}[what];
    }

    int vaneOf(int vane, int what) {
        index(in(vane, 0, 5));
        argument(in(what, 0, 5));
        if (what < 4) {
            return now.vanes[vane][what];
        }
        State other = now.copy();
        other.vanes[vane][3] = 1 - other.vanes[vane][3];
        int n = 0;
        for (int h = 0; h < 24; h++) {
            boolean counts = what == 4 ? now.agrees(vane, h) : (now.why(h) == 0) != (other.why(h) == 0);
            n += counts ? 1 : 0;
        }
        return n;
    }

    int millOf(int mill, int what) {
        index(in(mill, 0, 2));
        argument(in(what, 0, 5));
        List<int[]> row = now.lots.get(mill);
        int day = 0;
        for (int h = 0; h < 24; h++) {
            day += now.could(mill, h);
        }
        int first = row.isEmpty() ? -1 : row.get(0)[0];
        return new int[] {now.speeds[mill], row.size(), now.waiting(mill), now.ground[mill], first, day}[what];
    }

    int ownerOf(int owner, int what) {
        index(in(owner, 0, 4));
        argument(in(what, 0, 3));
        int waits = 0;
        for (List<int[]> row : now.lots) {
            for (int[] lot : row) {
                waits += lot[0] == owner ? lot[1] : 0;
            }
        }
        return new int[] {waits, now.flour[owner], now.brought[owner], now.takenBack[owner]}[what];
    }

    int count(int what) {
        argument(in(what, 0, 8));
        int waits = now.waiting(0) + now.waiting(1) + now.waiting(2);
        int flour = 0;
        for (int f : now.flour) {
            flour += f;
        }
        return new int[] {now.clock, now.gone, now.turned, now.committee(), now.agreeing(), waits, flour,
            now.refused, saved.size()}[what];
    }

    int setting(int setting) {
        index(in(setting, 0, 1));
        return now.settings[setting];
    }

    int doneIn(int mill, int what) {
        index(in(mill, 0, 2));
        argument(in(what, 0, 1));
        if (now.waiting(mill) > 0 && millOf(mill, 5) == 0) {
            return -1;
        }
        State later = now.copy();
        int hours = 0;
        while (later.waiting(mill) > 0) {
            later.hourGoesBy();
            hours++;
        }
        return hours;
    }

    int ifPassed(int owner, int hours) {
        index(in(owner, 0, 4));
        argument(in(hours, 1, 99));
        State later = now.copy();
        for (int i = 0; i < hours; i++) {
            later.hourGoesBy();
        }
        return later.flour[owner] - now.flour[owner];
    }

    int turnsIn() {
        for (int i = 0; i < 24; i++) {
            if (now.why((now.clock + i) % 24) == 0) {
                return i;
            }
        }
        return -1;
    }

    int mainVane() {
        int best = 5;
        for (int v = 4; v >= 0; v--) {
            if (vaneOf(v, 5) >= vaneOf(best, 5)) {
                best = v;
            }
        }
        return best;
    }

    double turnShare() {
        return count(4) / 24.0;
    }

    long digest() {
        List<Long> values = new ArrayList<>();
        for (int what = 0; what < 9; what++) {
            values.add((long) count(what));
        }
        values.add((long) setting(0));
        values.add((long) setting(1));
        for (int i = 0; i < 24 * 5; i++) {
            values.add((long) hourOf(i / 5, i % 5));
        }
        for (int i = 0; i < 6 * 6; i++) {
            values.add((long) vaneOf(i / 6, i % 6));
        }
        for (int i = 0; i < 3 * 8; i++) {
            values.add((long) (i % 8 < 6 ? millOf(i / 8, i % 8) : doneIn(i / 8, i % 8 - 6)));
        }
        for (int i = 0; i < 5 * 5; i++) {
            values.add((long) (i % 5 < 4 ? ownerOf(i / 5, i % 5) : ifPassed(i / 5, 9)));
        }
        values.add((long) turnsIn());
        values.add((long) mainVane());
        values.add(Double.doubleToLongBits(turnShare()));
        values.add(slots[0] == null ? 0L : 1L);
        values.add(slots[1] == null ? 0L : 1L);
        values.add((long) text.length());
        for (char c : text.toCharArray()) {
            values.add((long) c);
        }
        long hash = 3671;
        for (long value : values) {
            hash = 31 * hash + value;
        }
        return hash;
    }
}
