/** A village of windmills that grind only when a committee of vanes agrees. */
public final class VaneVotes {
    public static final int NONE = -1;

    private static final int HOURS = 24;
    private static final int SIDES = 8;
    private static final int MOST_STRENGTH = 9;
    private static final int VANES = 6;
    private static final int MILLS = 3;
    private static final int MOST_SPEED = 9;
    private static final int MOST_LOTS = 8;
    private static final int MOST_SACKS = 99;
    private static final int OWNERS = 5;
    private static final int MOST_PASSED = 99;
    private static final int MOST_GONE = 99999;
    private static final int SLOTS = 2;
    private static final int MOST_SAVED = 6;
    private static final int MOST_TEXT = 60;

    private static final int FACING = 0;
    private static final int REACH = 1;
    private static final int LEAST = 2;
    private static final int STUCK = 3;
    private static final int VANE_NUMBERS = 4;
    private static final int[] VANE_MOST = {7, 4, 9, 1};

    private static final int QUORUM = 0;
    private static final int HALF_ENOUGH = 1;
    private static final int SETTINGS = 2;
    private static final int[] SETTING_LEAST = {1, 0};
    private static final int[] SETTING_MOST = {6, 1};

    private static final int TURNS = 0;
    private static final int TOO_FEW_VANES = 1;
    private static final int TOO_FEW_AGREE = 2;

    private final Village village = new Village();
    private final Village[] slots = new Village[SLOTS];
    private final boolean[] slotFilled = new boolean[SLOTS];
    private final Village[] saved = new Village[MOST_SAVED];
    private int savedNext = 0;
    private int savedCount = 0;
    private final WindText buffer = new WindText();
    private final int[] rates = new int[HOURS];

    public VaneVotes() {
        for (int slot = 0; slot < SLOTS; slot++) {
            slots[slot] = new Village();
        }
        for (int place = 0; place < MOST_SAVED; place++) {
            saved[place] = new Village();
        }
    }

    // ---- winds, vanes, mills

    public int wind(int hour, int side, int strength) throws IndexOutOfBoundsException, IllegalArgumentException {
        needIndex(hour, HOURS);
        needRange(side, 0, SIDES - 1);
        needRange(strength, 0, MOST_STRENGTH);
        saveState();
        int before = 10 * village.windSides[hour] + village.windStrengths[hour];
        village.windSides[hour] = side;
        village.windStrengths[hour] = strength;
        return before;
    }

    public int vane(int vane, int what, int value) throws IndexOutOfBoundsException, IllegalArgumentException {
        needIndex(vane, VANES);
        needRange(what, 0, VANE_NUMBERS - 1);
        needRange(value, 0, VANE_MOST[what]);
        saveState();
        int before = village.vanes[vane][what];
        village.vanes[vane][what] = value;
        return before;
    }

    public int mill(int mill, int speed) throws IndexOutOfBoundsException, IllegalArgumentException {
        needIndex(mill, MILLS);
        needRange(speed, 0, MOST_SPEED);
        saveState();
        int before = village.mills[mill].speed;
        village.mills[mill].speed = speed;
        return before;
    }

    public int set(int setting, int value) throws IndexOutOfBoundsException, IllegalArgumentException {
        needIndex(setting, SETTINGS);
        needRange(value, SETTING_LEAST[setting], SETTING_MOST[setting]);
        saveState();
        int before = village.settings[setting];
        village.settings[setting] = value;
        return before;
    }

    // ---- sacks, hours

    public int bring(int owner, int mill, int sacks) throws IndexOutOfBoundsException, IllegalArgumentException {
        needIndex(owner, OWNERS);
        needIndex(mill, MILLS);
        needRange(sacks, 1, MOST_SACKS);
        saveState();
        Mill there = village.mills[mill];
        if (there.lots >= MOST_LOTS) {
            village.refused++;
            return NONE;
        }
        there.addLot(owner, sacks);
        village.brought[owner] += sacks;
        return there.sacksWaiting();
    }

    public int takeBack(int mill) throws IndexOutOfBoundsException {
        needIndex(mill, MILLS);
        saveState();
        Mill there = village.mills[mill];
        if (there.lots <= 0) {
            village.refused++;
            return NONE;
        }
        there.lots--;
        int sacks = there.lotSacks[there.lots];
        village.takenBack[there.lotOwners[there.lots]] += sacks;
        return sacks;
    }

    public int pass(int hours) throws IllegalArgumentException, IllegalStateException {
        needRange(hours, 1, MOST_PASSED);
        if (village.gone + hours > MOST_GONE) {
            throw new IllegalStateException("too many hours would have gone by");
        }
        saveState();
        int ground = 0;
        for (int passed = 0; passed < hours; passed++) {
            ground += village.passHour();
        }
        return ground;
    }

    // ---- texts, snapshots

    public int append(int code) throws IllegalArgumentException, IllegalStateException {
        needRange(code, 33, 126);
        if (buffer.length >= MOST_TEXT) {
            throw new IllegalStateException("the buffer is full");
        }
        buffer.codes[buffer.length] = code;
        buffer.length++;
        return buffer.length;
    }

    public int clearBuffer() {
        int before = buffer.length;
        buffer.length = 0;
        return before;
    }

    public int firstError() {
        return buffer.firstWrong();
    }

    public int load() throws IllegalArgumentException {
        if (!buffer.isWhole()) {
            throw new IllegalArgumentException("the buffer does not tell winds");
        }
        saveState();
        buffer.blowInto(village);
        buffer.length = 0;
        return village.agreeingHours();
    }

    public int keep(int slot) throws IllegalArgumentException {
        needRange(slot, 0, SLOTS - 1);
        slots[slot].copyFrom(village);
        slotFilled[slot] = true;
        return village.hour;
    }

    public int goBack(int slot) throws IllegalArgumentException, IllegalStateException {
        needRange(slot, 0, SLOTS - 1);
        if (!slotFilled[slot]) {
            throw new IllegalStateException("there is no snapshot in the slot");
        }
        saveState();
        village.copyFrom(slots[slot]);
        return village.hour;
    }

    public int undo() throws IllegalStateException {
        if (savedCount <= 0) {
            throw new IllegalStateException("there is no saved state");
        }
        savedNext = savedNext > 0 ? savedNext - 1 : MOST_SAVED - 1;
        savedCount--;
        village.copyFrom(saved[savedNext]);
        return savedCount;
    }

    // ---- looks; nothing is changed

    public int hourOf(int hour, int what) throws IndexOutOfBoundsException, IllegalArgumentException {
        needIndex(hour, HOURS);
        needRange(what, 0, 4);
        switch (what) {
            case 0: return village.windSides[hour];
            case 1: return village.windStrengths[hour];
            case 2: return village.votesIn(hour);
            case 3: return village.verdictIn(hour);
            default: return village.sacksGroundIn(hour);
        }
    }

    public int vaneOf(int vane, int what) throws IndexOutOfBoundsException, IllegalArgumentException {
        needIndex(vane, VANES);
        needRange(what, 0, 5);
        if (what < VANE_NUMBERS) {
            return village.vanes[vane][what];
        }
        return what == 4 ? village.hoursOfVane(vane) : village.hoursTurnedBy(vane);
    }

    public int millOf(int mill, int what) throws IndexOutOfBoundsException, IllegalArgumentException {
        needIndex(mill, MILLS);
        needRange(what, 0, 5);
        Mill there = village.mills[mill];
        switch (what) {
            case 0: return there.speed;
            case 1: return there.lots;
            case 2: return there.sacksWaiting();
            case 3: return there.ground;
            case 4: return there.lots > 0 ? there.lotOwners[0] : NONE;
            default: return village.fillRates(there, rates);
        }
    }

    public int ownerOf(int owner, int what) throws IndexOutOfBoundsException, IllegalArgumentException {
        needIndex(owner, OWNERS);
        needRange(what, 0, 3);
        switch (what) {
            case 0: return village.sacksWaitingOf(owner);
            case 1: return village.flour[owner];
            case 2: return village.brought[owner];
            default: return village.takenBack[owner];
        }
    }

    public int count(int what) throws IllegalArgumentException {
        needRange(what, 0, 8);
        switch (what) {
            case 0: return village.hour;
            case 1: return village.gone;
            case 2: return village.turned;
            case 3: return village.committee();
            case 4: return village.agreeingHours();
            case 5: return village.sacksWaiting();
            case 6: return village.flourOfAll();
            case 7: return village.refused;
            default: return savedCount;
        }
    }

    public int setting(int setting) throws IndexOutOfBoundsException {
        needIndex(setting, SETTINGS);
        return village.settings[setting];
    }

    // ---- what would be; nothing is changed, and the limit of the hours does not matter

    public int doneIn(int mill, int what) throws IndexOutOfBoundsException, IllegalArgumentException {
        needIndex(mill, MILLS);
        needRange(what, 0, 1);
        Mill there = village.mills[mill];
        int waiting = there.sacksWaiting();
        if (waiting == 0) {
            return 0;
        }
        int inDay = village.fillRates(there, rates);
        if (inDay <= 0) {
            return NONE;
        }
        if (what == 0) {
            return hoursUntilGround(waiting);
        }
        // the last day is never a whole one gone by: its hours are looked at one by one
        int wholeDays = (waiting - 1) / inDay;
        return wholeDays * HOURS + hoursUntilGround(waiting - wholeDays * inDay);
    }

    public int ifPassed(int owner, int hours) throws IndexOutOfBoundsException, IllegalArgumentException {
        needIndex(owner, OWNERS);
        needRange(hours, 1, MOST_PASSED);
        int flour = 0;
        for (int mill = 0; mill < MILLS; mill++) {
            Mill there = village.mills[mill];
            int inDay = village.fillRates(there, rates);
            int inAll = hours / HOURS * inDay;
            for (int after = 0; after < hours % HOURS; after++) {
                inAll += rates[(village.hour + after) % HOURS];
            }
            flour += there.flourOf(owner, inAll);
        }
        return flour;
    }

    public int turnsIn() {
        for (int after = 0; after < HOURS; after++) {
            if (village.verdictIn((village.hour + after) % HOURS) == TURNS) {
                return after;
            }
        }
        return NONE;
    }

    public int mainVane() {
        int main = 0;
        int most = village.hoursTurnedBy(0);
        for (int vane = 1; vane < VANES; vane++) {
            int hours = village.hoursTurnedBy(vane);
            if (hours > most) {
                main = vane;
                most = hours;
            }
        }
        return main;
    }

    public double turnShare() {
        return (double) village.agreeingHours() / 24.0;
    }

    public long digest() {
        long hash = 3671;
        for (int what = 0; what <= 8; what++) {
            hash = 31 * hash + count(what);
        }
        for (int setting = 0; setting < SETTINGS; setting++) {
            hash = 31 * hash + setting(setting);
        }
        for (int hour = 0; hour < HOURS; hour++) {
            for (int what = 0; what <= 4; what++) {
                hash = 31 * hash + hourOf(hour, what);
            }
        }
        for (int vane = 0; vane < VANES; vane++) {
            for (int what = 0; what <= 5; what++) {
                hash = 31 * hash + vaneOf(vane, what);
            }
        }
        for (int mill = 0; mill < MILLS; mill++) {
            for (int what = 0; what <= 5; what++) {
                hash = 31 * hash + millOf(mill, what);
            }
            hash = 31 * hash + doneIn(mill, 0);
            hash = 31 * hash + doneIn(mill, 1);
        }
        for (int owner = 0; owner < OWNERS; owner++) {
            for (int what = 0; what <= 3; what++) {
                hash = 31 * hash + ownerOf(owner, what);
            }
            hash = 31 * hash + ifPassed(owner, 9);
        }
        hash = 31 * hash + turnsIn();
        hash = 31 * hash + mainVane();
        hash = 31 * hash + bitsOf(turnShare());
        for (int slot = 0; slot < SLOTS; slot++) {
            hash = 31 * hash + (slotFilled[slot] ? 1 : 0);
        }
        hash = 31 * hash + buffer.length;
        for (int place = 0; place < buffer.length; place++) {
            hash = 31 * hash + buffer.codes[place];
        }
        return hash;
    }

    // ---- helpers

    private static void needIndex(int index, int size) {
        if (index < 0 || index >= size) {
            throw new IndexOutOfBoundsException("there is no such number");
        }
    }

    private static void needRange(int value, int least, int most) {
        if (value < least || value > most) {
            throw new IllegalArgumentException("a value is out of range");
        }
    }

    private void saveState() {
        saved[savedNext].copyFrom(village);
        savedNext = savedNext + 1 < MOST_SAVED ? savedNext + 1 : 0;
        if (savedCount < MOST_SAVED) {
            savedCount++;
        }
    }

    /** In how many hours so many sacks are ground by the rates, from the hour of the clock on. */
    private int hoursUntilGround(int sacks) {
        int left = sacks;
        int hour = village.hour;
        // a day grinds one sack at least, or nobody asks
        int bound = HOURS * MOST_LOTS * MOST_SACKS;
        for (int hours = 1; hours <= bound; hours++) {
            left -= rates[hour];
            if (left <= 0) {
                return hours;
            }
            hour = hour + 1 < HOURS ? hour + 1 : 0;
        }
        return NONE;
    }

    /** The bits of a number from 0 to 1 that is no denormal one; the language leaves Double's own function out. */
    private static long bitsOf(double share) {
        if (share <= 0.0) {
            return 0L;
        }
        double scaled = share;
        long exponent = 1023;
        for (int step = 0; step < 1000 && scaled < 1.0; step++) {
            scaled = scaled * 2.0;
            exponent--;
        }
        long fraction = (long) ((scaled - 1.0) * (double) (1L << 52));
        return (exponent << 52) | fraction;
    }

    /** A mill with the lots that wait at it. */
    private static final class Mill {
        int speed = 2;
        int ground = 0;
        int lots = 0;
        final int[] lotOwners = new int[MOST_LOTS];
        final int[] lotSacks = new int[MOST_LOTS];

        void copyMill(Mill other) {
            speed = other.speed;
            ground = other.ground;
            lots = other.lots;
            System.arraycopy(other.lotOwners, 0, lotOwners, 0, MOST_LOTS);
            System.arraycopy(other.lotSacks, 0, lotSacks, 0, MOST_LOTS);
        }

        /** Asked only while fewer lots wait than may. */
        void addLot(int owner, int sacks) {
            lotOwners[lots] = owner;
            lotSacks[lots] = sacks;
            lots++;
        }

        int sacksWaiting() {
            int sum = 0;
            for (int lot = 0; lot < lots; lot++) {
                sum += lotSacks[lot];
            }
            return sum;
        }

        int sacksWaitingOf(int owner) {
            int sum = 0;
            for (int lot = 0; lot < lots; lot++) {
                if (lotOwners[lot] == owner) {
                    sum += lotSacks[lot];
                }
            }
            return sum;
        }

        /** How many of the first sacks, at most so many, are the owner's. */
        int flourOf(int owner, int most) {
            int left = most;
            int sum = 0;
            for (int lot = 0; lot < lots && left > 0; lot++) {
                int part = Math.min(left, lotSacks[lot]);
                left -= part;
                if (lotOwners[lot] == owner) {
                    sum += part;
                }
            }
            return sum;
        }

        /** Grinds at most so many sacks into the flour of their owners; returns how many. */
        int grind(int most, int[] flour) {
            int left = most;
            int gone = 0;
            for (int lot = 0; lot < lots && left > 0; lot++) {
                int part = Math.min(left, lotSacks[lot]);
                left -= part;
                lotSacks[lot] -= part;
                flour[lotOwners[lot]] += part;
                if (lotSacks[lot] == 0) {
                    gone++;
                }
            }
            dropFirst(gone);
            ground += most - left;
            return most - left;
        }

        private void dropFirst(int gone) {
            lots -= gone;
            for (int lot = 0; lot < lots; lot++) {
                lotOwners[lot] = lotOwners[lot + gone];
                lotSacks[lot] = lotSacks[lot + gone];
            }
        }
    }

    /** All that snapshots and saved states hold. */
    private static final class Village {
        int hour = 0;
        int gone = 0;
        int turned = 0;
        int refused = 0;
        final int[] windSides = new int[HOURS];
        final int[] windStrengths = new int[HOURS];
        final int[][] vanes = new int[VANES][VANE_NUMBERS];
        final int[] settings = new int[SETTINGS];
        final Mill[] mills = new Mill[MILLS];
        final int[] flour = new int[OWNERS];
        final int[] brought = new int[OWNERS];
        final int[] takenBack = new int[OWNERS];

        Village() {
            for (int at = 0; at < HOURS; at++) {
                windSides[at] = at % 8;
                windStrengths[at] = at % 10;
            }
            for (int vane = 0; vane < VANES; vane++) {
                vanes[vane][FACING] = vane;
                vanes[vane][REACH] = 2;
                vanes[vane][LEAST] = 1;
            }
            for (int mill = 0; mill < MILLS; mill++) {
                mills[mill] = new Mill();
            }
            settings[QUORUM] = 3;
        }

        void copyFrom(Village other) {
            hour = other.hour;
            gone = other.gone;
            turned = other.turned;
            refused = other.refused;
            System.arraycopy(other.windSides, 0, windSides, 0, HOURS);
            System.arraycopy(other.windStrengths, 0, windStrengths, 0, HOURS);
            for (int vane = 0; vane < VANES; vane++) {
                System.arraycopy(other.vanes[vane], 0, vanes[vane], 0, VANE_NUMBERS);
            }
            System.arraycopy(other.settings, 0, settings, 0, SETTINGS);
            for (int mill = 0; mill < MILLS; mill++) {
                mills[mill].copyMill(other.mills[mill]);
            }
            System.arraycopy(other.flour, 0, flour, 0, OWNERS);
            System.arraycopy(other.brought, 0, brought, 0, OWNERS);
            System.arraycopy(other.takenBack, 0, takenBack, 0, OWNERS);
        }

        /** Whether the vane agrees with the wind of the hour, stuck or not. */
        boolean vaneAgrees(int vane, int at) {
            int[] numbers = vanes[vane];
            if (windStrengths[at] < numbers[LEAST]) {
                return false;
            }
            int oneWay = windSides[at] - numbers[FACING];
            if (oneWay < 0) {
                oneWay = -oneWay;
            }
            int otherWay = SIDES - oneWay;
            return oneWay <= numbers[REACH] || otherWay <= numbers[REACH];
        }

        int committee() {
            int size = 0;
            for (int vane = 0; vane < VANES; vane++) {
                if (vanes[vane][STUCK] == 0) {
                    size++;
                }
            }
            return size;
        }

        int votesIn(int at) {
            int votes = 0;
            for (int vane = 0; vane < VANES; vane++) {
                if (vanes[vane][STUCK] == 0 && vaneAgrees(vane, at)) {
                    votes++;
                }
            }
            return votes;
        }

        int verdictOf(int size, int votes) {
            if (size < settings[QUORUM]) {
                return TOO_FEW_VANES;
            }
            if (2 * votes > size || (2 * votes == size && settings[HALF_ENOUGH] == 1)) {
                return TURNS;
            }
            return TOO_FEW_AGREE;
        }

        int verdictIn(int at) {
            return verdictOf(committee(), votesIn(at));
        }

        int agreeingHours() {
            int hours = 0;
            for (int at = 0; at < HOURS; at++) {
                if (verdictIn(at) == TURNS) {
                    hours++;
                }
            }
            return hours;
        }

        int hoursOfVane(int vane) {
            int hours = 0;
            for (int at = 0; at < HOURS; at++) {
                if (vaneAgrees(vane, at)) {
                    hours++;
                }
            }
            return hours;
        }

        /** In how many hours the committee would answer otherwise if the vane came or went. */
        int hoursTurnedBy(int vane) {
            int step = vanes[vane][STUCK] == 1 ? 1 : -1;
            int size = committee();
            int hours = 0;
            for (int at = 0; at < HOURS; at++) {
                int votes = votesIn(at);
                int otherVotes = vaneAgrees(vane, at) ? votes + step : votes;
                boolean now = verdictOf(size, votes) == TURNS;
                boolean then = verdictOf(size + step, otherVotes) == TURNS;
                if (now != then) {
                    hours++;
                }
            }
            return hours;
        }

        int sacksGroundIn(int at) {
            if (verdictIn(at) != TURNS) {
                return 0;
            }
            int sum = 0;
            for (int mill = 0; mill < MILLS; mill++) {
                sum += mills[mill].speed * windStrengths[at] / 4;
            }
            return sum;
        }

        /** Puts into the row what the mill could grind in each hour; returns the sum of the day. */
        int fillRates(Mill mill, int[] row) {
            int sum = 0;
            for (int at = 0; at < HOURS; at++) {
                row[at] = verdictIn(at) == TURNS ? mill.speed * windStrengths[at] / 4 : 0;
                sum += row[at];
            }
            return sum;
        }

        /** Lets the hour of the clock go by; returns the sacks that are ground in it. */
        int passHour() {
            int ground = 0;
            if (verdictIn(hour) == TURNS) {
                turned++;
                for (int mill = 0; mill < MILLS; mill++) {
                    Mill there = mills[mill];
                    ground += there.grind(there.speed * windStrengths[hour] / 4, flour);
                }
            }
            gone++;
            hour = hour + 1 < HOURS ? hour + 1 : 0;
            return ground;
        }

        int sacksWaiting() {
            int sum = 0;
            for (int mill = 0; mill < MILLS; mill++) {
                sum += mills[mill].sacksWaiting();
            }
            return sum;
        }

        int sacksWaitingOf(int owner) {
            int sum = 0;
            for (int mill = 0; mill < MILLS; mill++) {
                sum += mills[mill].sacksWaitingOf(owner);
            }
            return sum;
        }

        int flourOfAll() {
            int sum = 0;
            for (int owner = 0; owner < OWNERS; owner++) {
                sum += flour[owner];
            }
            return sum;
        }
    }

    /** The buffer, read as winds: what may come next hangs on the place in a wind alone. */
    private static final class WindText {
        private static final int WRONG = -1;
        private static final int AT_HOUR = 0;
        private static final int AFTER_ONE = 1;
        private static final int AFTER_TWO = 2;
        private static final int AFTER_HOUR = 3;
        private static final int AT_SIDE = 4;
        private static final int AT_STRENGTH = 5;
        private static final int AFTER_WIND = 6;

        final int[] codes = new int[MOST_TEXT];
        int length = 0;

        /** The index of the first character that cannot stand where it does; the length if there is none. */
        int firstWrong() {
            int place = AT_HOUR;
            for (int index = 0; index < length; index++) {
                place = placeAfter(place, codes[index]);
                if (place == WRONG) {
                    return index;
                }
            }
            return length;
        }

        boolean isWhole() {
            int place = AT_HOUR;
            for (int index = 0; index < length && place != WRONG; index++) {
                place = placeAfter(place, codes[index]);
            }
            return place == AFTER_WIND;
        }

        /** Asked only while the text is whole. */
        void blowInto(Village village) {
            int place = AT_HOUR;
            int hour = 0;
            int side = 0;
            for (int index = 0; index < length; index++) {
                int code = codes[index];
                if (place == AT_HOUR) {
                    hour = code - '0';
                } else if (place == AT_SIDE) {
                    side = code - '0';
                } else if (place == AT_STRENGTH) {
                    village.windSides[hour] = side;
                    village.windStrengths[hour] = code - '0';
                } else if (code >= '0' && code <= '9') {
                    hour = 10 * hour + code - '0';
                }
                place = placeAfter(place, code);
            }
        }

        /** Where the text stands behind a character, or WRONG if the character cannot stand at the place. */
        private static int placeAfter(int place, int code) {
            switch (place) {
                case AT_HOUR:
                    return afterFirstDigit(code);
                case AFTER_ONE:
                    return code >= '0' && code <= '9' ? AFTER_HOUR : afterHour(code);
                case AFTER_TWO:
                    return code >= '0' && code <= '3' ? AFTER_HOUR : afterHour(code);
                case AFTER_HOUR:
                    return afterHour(code);
                case AT_SIDE:
                    return code >= '0' && code <= '7' ? AT_STRENGTH : WRONG;
                case AT_STRENGTH:
                    return code >= '0' && code <= '9' ? AFTER_WIND : WRONG;
                case AFTER_WIND:
                    return code == ';' ? AT_HOUR : WRONG;
                default:
                    return WRONG;
            }
        }

        private static int afterFirstDigit(int code) {
            if (code == '1') {
                return AFTER_ONE;
            }
            if (code == '2') {
                return AFTER_TWO;
            }
            return code >= '0' && code <= '9' ? AFTER_HOUR : WRONG;
        }

        private static int afterHour(int code) {
            return code == '=' ? AT_SIDE : WRONG;
        }
    }
}
