/** What the document says ahead of its promises: a test of its own for each sentence that names a boundary case. */
public final class TermsTest {
    private static final Checks C = new Checks();

    public static void main(String[] args) {
        C.test("an object is used for at most 512 calls", TermsTest::theLastCall);
        rounding();
        windsAtFirst();
        vanesAndWinds();
        committee();
        lotsAndGrinding();
        inputText();
        snapshotsAndUndo();
        exceptions();
        C.end();
    }

    private static void theLastCall() {
        VaneVotes x = new VaneVotes();
        for (int call = 1; call <= 511; call++) {
            x.pass(99);
        }
        C.due("call 512: hours that went by", x.count(1), 511 * 99);
        VaneVotes y = new VaneVotes();
        for (int call = 1; call <= 511; call++) {
            y.mill(0, call % 10);
        }
        C.due("call 512: mill", y.mill(0, 0), 1);
    }

    /** The greatest number of which four are not more than the product. */
    private static int quarter(int product) {
        int number = 0;
        while (4 * (number + 1) <= product) {
            number++;
        }
        return number;
    }

    private static void rounding() {
        C.test("divisions are rounded down, for each speed and strength", () -> {
            for (int strength = 0; strength <= 9; strength++) {
                VaneVotes x = Villages.steady(strength);
                x.mill(1, 0);
                x.mill(2, 0);
                for (int speed = 0; speed <= 9; speed++) {
                    x.mill(0, speed);
                    C.due(speed + " times " + strength, x.hourOf(0, 4), quarter(speed * strength));
                    C.due("a day of " + speed + " times " + strength, x.millOf(0, 5), 24 * quarter(speed * strength));
                }
            }
        });
        C.test("divisions are rounded down, for each mill and not for their sum", () -> {
            VaneVotes x = Villages.steady(3);
            x.mill(0, 1);
            x.mill(1, 1);
            C.due("speeds 1, 1 and 2 by 3", x.hourOf(0, 4), 1);
            x.mill(2, 1);
            C.due("speeds 1, 1 and 1 by 3", x.hourOf(0, 4), 0);
        });
    }

    private static void windsAtFirst() {
        C.test("at first the side is the hour modulo 8", () -> {
            int[] sides = {0, 1, 2, 3, 4, 5, 6, 7, 0, 1, 2, 3, 4, 5, 6, 7, 0, 1, 2, 3, 4, 5, 6, 7};
            VaneVotes x = new VaneVotes();
            for (int hour = 0; hour < 24; hour++) {
                C.due("side of " + hour, x.hourOf(hour, 0), sides[hour]);
            }
        });
        C.test("at first the strength is the hour modulo 10", () -> {
            int[] strengths = {0, 1, 2, 3, 4, 5, 6, 7, 8, 9, 0, 1, 2, 3, 4, 5, 6, 7, 8, 9, 0, 1, 2, 3};
            VaneVotes x = new VaneVotes();
            for (int hour = 0; hour < 24; hour++) {
                C.due("strength of " + hour, x.hourOf(hour, 1), strengths[hour]);
            }
        });
        C.test("a day has 24 hours: hour 23 is the last one and has a wind of its own", () -> {
            VaneVotes x = Villages.turningIn();
            x.wind(23, 3, 4);
            x.bring(0, 0, 99);
            C.due("hours 0 to 22", x.pass(23), 0);
            C.due("hour 23", x.pass(1), 2);
            C.due("hour 0 of the next day", x.pass(1), 0);
        });
        C.test("the winds are the same each day", () -> {
            VaneVotes x = new VaneVotes();
            x.wind(5, 3, 6);
            x.bring(0, 0, 99);
            x.bring(0, 0, 99);
            for (int day = 0; day < 5; day++) {
                C.due("ground on day " + day, x.pass(24), 23);
                C.due("hour 5", x.hourOf(5, 0) * 10 + x.hourOf(5, 1), 36);
                C.due("hour 23", x.hourOf(23, 0) * 10 + x.hourOf(23, 1), 73);
            }
        });
    }

    private static void vanesAndWinds() {
        C.test("a vane faces at first its number, reaches 2, wants 1 at least, and is not stuck", () -> {
            VaneVotes x = new VaneVotes();
            for (int vane = 0; vane < 6; vane++) {
                C.due("side", x.vaneOf(vane, 0), vane);
                C.due("reach", x.vaneOf(vane, 1), 2);
                C.due("least strength", x.vaneOf(vane, 2), 1);
                C.due("stuck", x.vaneOf(vane, 3), 0);
            }
        });
        C.test("a vane agrees, if the strength is at least the least one: one below, just it, one above", () -> {
            for (int least = 0; least <= 9; least++) {
                VaneVotes x = Villages.voting(1, 1);
                x.vane(0, 2, least);
                for (int strength = 0; strength <= 9; strength++) {
                    x.wind(9, 3, strength);
                    C.due(strength + " for " + least, x.hourOf(9, 2), strength >= least ? 1 : 0);
                }
            }
        });
        C.test("sides go round, 0 is beside 7", () -> {
            VaneVotes x = Villages.voting(1, 1);
            x.vane(0, 1, 1);
            x.vane(0, 0, 0);
            int[] beside0 = {1, 1, 0, 0, 0, 0, 0, 1};
            for (int side = 0; side < 8; side++) {
                x.wind(9, side, 5);
                C.due("from " + side + " to 0", x.hourOf(9, 2), beside0[side]);
            }
            x.vane(0, 0, 7);
            int[] beside7 = {1, 0, 0, 0, 0, 0, 1, 1};
            for (int side = 0; side < 8; side++) {
                x.wind(9, side, 5);
                C.due("from " + side + " to 7", x.hourOf(9, 2), beside7[side]);
            }
        });
        C.test("at most so many steps round, the shorter way, as the reach: just so many, one more", () -> {
            int[] steps = {0, 1, 2, 3, 4, 3, 2, 1};
            for (int faced = 0; faced < 8; faced++) {
                for (int reach = 0; reach <= 4; reach++) {
                    VaneVotes x = Villages.voting(1, 1);
                    x.vane(0, 0, faced);
                    x.vane(0, 1, reach);
                    for (int on = 0; on < 8; on++) {
                        x.wind(9, (faced + on) % 8, 5);
                        C.due(on + " on from " + faced + " by " + reach, x.hourOf(9, 2), steps[on] <= reach ? 1 : 0);
                    }
                }
            }
        });
        C.test("a vane agrees only if both its reach and its least strength allow it", () -> {
            VaneVotes x = Villages.voting(1, 1);
            x.vane(0, 2, 5);
            C.due("both", x.hourOf(9, 2), 1);
            x.wind(9, 4, 9);
            C.due("the side alone is wrong", x.hourOf(9, 2), 0);
            x.wind(9, 3, 4);
            C.due("the strength alone is wrong", x.hourOf(9, 2), 0);
        });
    }

    private static void committee() {
        C.test("the committee are the vanes that are not stuck, from none to all six", () -> {
            for (int size = 0; size <= 6; size++) {
                VaneVotes x = Villages.voting(size, size);
                C.due("vanes of the committee", x.count(3), size);
                C.due("of these agree, the stuck ones do not count", x.hourOf(9, 2), size);
            }
        });
        C.test("at least as many as setting 0: one below, just as many, one above", () -> {
            for (int size = 0; size <= 6; size++) {
                VaneVotes x = Villages.voting(size, size);
                for (int quorum = 1; quorum <= 6; quorum++) {
                    x.set(0, quorum);
                    C.due(size + " of " + quorum, x.hourOf(9, 3), size >= quorum ? 0 : 1);
                }
            }
        });
        C.test("more than half of them: just half is not enough, one more is", () -> {
            int[] needed = {1, 1, 2, 2, 3, 3, 4};
            majority(0, needed);
        });
        C.test("with setting 1 as 1 just half of them are enough, too", () -> {
            int[] needed = {1, 1, 1, 2, 2, 3, 3};
            majority(1, needed);
        });
        C.test("none of none is half, but no quorum is reached without a vane", () -> {
            VaneVotes x = Villages.voting(0, 0);
            x.set(0, 1);
            x.set(1, 1);
            C.due("why", x.hourOf(9, 3), 1);
            C.due("hours", x.count(4), 0);
        });
    }

    private static void majority(int half, int[] needed) {
        for (int size = 1; size <= 6; size++) {
            for (int agreeing = 0; agreeing <= size; agreeing++) {
                VaneVotes x = Villages.voting(size, agreeing);
                x.set(0, 1);
                x.set(1, half);
                C.due(agreeing + " of " + size, x.hourOf(9, 3), agreeing >= needed[size] ? 0 : 2);
                C.due("sacks of " + agreeing + " of " + size, x.hourOf(9, 4), agreeing >= needed[size] ? 6 : 0);
            }
        }
    }

    private static void lotsAndGrinding() {
        C.test("a row of lots that wait, at most 8: the eighth is taken, the ninth is not", () -> {
            for (int mill = 0; mill < 3; mill++) {
                VaneVotes x = Villages.lots(mill, 7);
                C.due("the eighth", x.bring(0, mill, 1), 8);
                C.due("the ninth", x.bring(0, mill, 1), VaneVotes.NONE);
                C.due("lots", x.millOf(mill, 1), 8);
            }
        });
        C.test("or all that wait, if these are fewer: one fewer, just as many, one more", () -> {
            int[][] due = {{3, 3, 0}, {4, 4, 0}, {5, 4, 1}};
            for (int[] one : due) {
                VaneVotes x = Villages.steady(8);
                x.bring(0, 1, one[0]);
                C.due("ground of " + one[0], x.pass(1), one[1]);
                C.due("left of " + one[0], x.millOf(1, 2), one[2]);
                C.due("ground by the mill", x.millOf(1, 3), one[1]);
            }
        });
        C.test("from the first lot on: up to one below a lot's end, to its end, over it", () -> {
            // the speed, by which the mill grinds; the flour of 0, 1 and 2; the first owner and the lots that are left
            int[][] due = {{3, 3, 0, 0, 0, 3}, {4, 4, 0, 0, 1, 2}, {5, 4, 1, 0, 1, 2}, {7, 4, 3, 0, 2, 1},
                {8, 4, 3, 1, 2, 1}};
            for (int[] one : due) {
                VaneVotes x = Villages.steady(4);
                x.mill(0, one[0]);
                x.bring(0, 0, 4);
                x.bring(1, 0, 3);
                x.bring(2, 0, 9);
                x.pass(1);
                for (int owner = 0; owner < 3; owner++) {
                    C.due("speed " + one[0] + ", flour of " + owner, x.ownerOf(owner, 1), one[1 + owner]);
                }
                C.due("speed " + one[0] + ", first owner", x.millOf(0, 4), one[4]);
                C.due("speed " + one[0] + ", lots", x.millOf(0, 1), one[5]);
            }
        });
        C.test("a lot without sacks is gone, so that there is room for another one", () -> {
            VaneVotes x = Villages.steady(4);
            x.mill(0, 1);
            for (int lot = 0; lot < 8; lot++) {
                x.bring(lot % 5, 0, 1);
            }
            C.due("no room", x.bring(4, 0, 9), VaneVotes.NONE);
            x.pass(1);
            C.due("lots", x.millOf(0, 1), 7);
            C.due("first owner", x.millOf(0, 4), 1);
            C.due("room", x.bring(4, 0, 9), 16);
            C.due("no room", x.bring(4, 0, 9), VaneVotes.NONE);
            C.due("the last one", x.takeBack(0), 9);
        });
        C.test("in an hour in which the committee does not agree no mill grinds", () -> {
            VaneVotes x = Villages.turningIn(1);
            x.bring(0, 0, 9);
            C.due("hour 0", x.pass(1), 0);
            C.due("hour 1", x.pass(1), 2);
            C.due("hour 2", x.pass(1), 0);
        });
        C.test("a sack that is ground is flour of its owner, at whichever mill", () -> {
            VaneVotes x = Villages.steady(4);
            x.bring(3, 0, 2);
            x.bring(3, 1, 2);
            x.bring(3, 2, 2);
            C.due("ground", x.pass(1), 6);
            int[] flour = {0, 0, 0, 6, 0};
            for (int owner = 0; owner < 5; owner++) {
                C.due("flour of " + owner, x.ownerOf(owner, 1), flour[owner]);
            }
        });
    }

    private static void inputText() {
        C.test("the buffer has at most 60 characters", () -> {
            VaneVotes x = new VaneVotes();
            for (int length = 1; length <= 60; length++) {
                C.due("append", x.append('0' + length % 10), length);
            }
            C.dueThrow("append", x, Checks.STATE, () -> x.append('1'));
            C.due("length", x.clearBuffer(), 60);
            C.due("append to the cleared one", x.append('1'), 1);
        });
        // what comes ahead, and the characters of which each may come then
        String[][] places = {
            {"", "0123456789"}, {"0", "="}, {"1", "0123456789="}, {"2", "0123="}, {"3", "="}, {"9", "="},
            {"10", "="}, {"19", "="}, {"20", "="}, {"23", "="}, {"5=", "01234567"}, {"17=", "01234567"},
            {"5=0", "0123456789"}, {"5=7", "0123456789"}, {"5=79", ";"}, {"23=00", ";"},
            {"5=79;", "0123456789"}, {"5=79;2", "0123="}, {"5=79;2=", "01234567"}, {"5=79;2=0", "0123456789"},
            {"5=79;2=00", ";"},
        };
        C.test("a character is a syntax error if no winds as a text begin so: each character at each place", () -> {
            for (String[] place : places) {
                for (int code = 33; code <= 126; code++) {
                    VaneVotes x = Villages.typed(place[0] + (char) code);
                    boolean good = place[1].indexOf(code) >= 0;
                    int first = place[0].length() + (good ? 1 : 0);
                    C.due("firstError of " + place[0] + (char) code, x.firstError(), first);
                }
            }
        });
        C.test("an hour, 0 to 23: one more, and three digits", () -> {
            for (int hour = 0; hour <= 239; hour++) {
                // as of the first digit, or the first two, that no hour begins with
                int right = hour <= 23 ? (hour + "=").length() : hour <= 99 ? 1 : 2;
                C.due("firstError of " + hour + "=", Villages.typed(hour + "=").firstError(), right);
            }
            C.due("firstError of 240=", Villages.typed("240=").firstError(), 1);
        });
        C.test("without leading zeros", () -> {
            for (int hour = 0; hour <= 23; hour++) {
                C.due("firstError of 0" + hour, Villages.typed("0" + hour + "=00").firstError(), 1);
                C.due("firstError of 5=00;0" + hour, Villages.typed("5=00;0" + hour + "=00").firstError(), 6);
            }
            C.due("hour 0 itself", Villages.typed("0=00").firstError(), 4);
        });
        C.test("the first one of several errors", () -> {
            C.due("in a row", Villages.typed("5=00;;;;").firstError(), 5);
            C.due("with what would be right behind it", Villages.typed("5=8;6=00").firstError(), 2);
        });
        C.test("of any length: what a full buffer cannot hold to its end is no error", () -> {
            String eleven = "10=00;11=00;12=00;13=00;14=00;15=00;16=00;17=00;18=00;";
            C.due("so far", eleven.length(), 54);
            for (String end : new String[] {"1=00;2", "1=00;9", "19=00;", "2=0", "23=7", "1", ""}) {
                C.due("firstError before " + end, Villages.typed(eleven + end).firstError(), 54 + end.length());
            }
            C.due("the last character", Villages.typed(eleven + "1=00;;").firstError(), 59);
        });
    }

    private static void snapshotsAndUndo() {
        C.test("there are two slots, each with a snapshot of its own", () -> {
            VaneVotes x = new VaneVotes();
            x.mill(0, 4);
            x.keep(0);
            x.mill(0, 5);
            x.keep(1);
            x.mill(0, 6);
            x.goBack(0);
            C.due("slot 0", x.millOf(0, 0), 4);
            x.goBack(1);
            C.due("slot 1", x.millOf(0, 0), 5);
        });
        C.test("a snapshot is all but the buffer, the slots and the saved states", () -> {
            VaneVotes x = Villages.rich();
            long first = Villages.digestWithout(x);
            x.keep(0);
            x.pass(50);
            x.keep(1);
            x.append('~');
            x.undo();
            x.undo();
            C.due("saved states", x.count(8), 4);
            x.goBack(0);
            C.due("all", Villages.digestWithout(x), first);
            C.due("saved states, with that before goBack", x.count(8), 5);
            C.due("the other slot", x.goBack(1), 5);
            C.due("the buffer", x.clearBuffer(), 11);
        });
        C.test("at most 6 states are saved, the oldest one is dropped first", () -> {
            VaneVotes x = new VaneVotes();
            for (int speed = 3; speed <= 9; speed++) {
                x.mill(0, speed);
            }
            C.due("saved states", x.count(8), 6);
            for (int left = 5; left >= 0; left--) {
                C.due("undo", x.undo(), left);
            }
            C.due("the state behind the first call", x.millOf(0, 0), 3);
            C.dueThrow("undo", x, Checks.STATE, x::undo);
        });
    }

    private static void exceptions() {
        C.test("a call that throws changes nothing, the buffer stays as it is, too", () -> {
            VaneVotes x = richButText();
            C.dueThrow("load", x, Checks.ARGUMENT, x::load);
            C.due("firstError", x.firstError(), 4);
            C.due("length", x.clearBuffer(), 5);
        });
        C.test("a call that throws saves no state and drops none, of six", () ->
            C.dueThrow("load", TermsTest::richButText, Checks.ARGUMENT, x -> x.load()));
        C.test("of several exceptions the one that is named first: the argument's before the state's", () -> {
            VaneVotes full = Villages.typed("5=00;".repeat(12));
            C.dueThrow("append(32) to a full buffer", full, Checks.ARGUMENT, () -> full.append(32));
            VaneVotes x = new VaneVotes();
            C.dueThrow("goBack(2) with empty slots", x, Checks.ARGUMENT, () -> x.goBack(2));
        });
    }

    private static VaneVotes richButText() {
        VaneVotes x = Villages.rich();
        Villages.type(x, "1=23=");
        return x;
    }
}
