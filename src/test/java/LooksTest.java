/** Promises 16 to 27: a test of its own for each sentence that names a boundary case, but for those of RangesTest. */
public final class LooksTest {
    private static final int NONE = VaneVotes.NONE;
    private static final Checks C = new Checks();

    public static void main(String[] args) {
        hours();
        hoursOfVanes();
        whenAVaneMatters();
        mills();
        owners();
        counts();
        settings();
        doneIn();
        doneInOverDays();
        ifPassed();
        turnsIn();
        mainVane();
        shareAndDigest();
        nothingIsChanged();
        C.end();
    }

    private static void hours() {
        C.test("promise 16: vanes of the committee that agree, from none to all six, also without a quorum", () -> {
            for (int size = 0; size <= 6; size++) {
                for (int agreeing = 0; agreeing <= size; agreeing++) {
                    VaneVotes x = Villages.voting(size, agreeing);
                    x.set(0, 6);
                    C.due(agreeing + " of " + size, x.hourOf(9, 2), agreeing);
                }
            }
        });
        C.test("promise 16: too few vanes comes before too few that agree, and with it no sack", () -> {
            VaneVotes x = Villages.voting(2, 0);
            C.due("why", x.hourOf(9, 3), 1);
            x.set(0, 2);
            C.due("why", x.hourOf(9, 3), 2);
            C.due("sacks", x.hourOf(9, 4), 0);
            VaneVotes y = Villages.voting(2, 2);
            C.due("why, though all agree", y.hourOf(9, 3), 1);
            C.due("sacks", y.hourOf(9, 4), 0);
            y.set(0, 2);
            C.due("why", y.hourOf(9, 3), 0);
            C.due("sacks", y.hourOf(9, 4), 6);
        });
        C.test("promise 16: the mills turn also if they grind nothing", () -> {
            VaneVotes x = Villages.steady(0);
            C.due("why without wind", x.hourOf(23, 3), 0);
            C.due("sacks without wind", x.hourOf(23, 4), 0);
            VaneVotes y = Villages.steady(9);
            for (int mill = 0; mill < 3; mill++) {
                y.mill(mill, 0);
            }
            C.due("why without speed", y.hourOf(0, 3), 0);
            C.due("sacks without speed", y.hourOf(0, 4), 0);
        });
        C.test("promise 16: sacks of all mills, if enough waited: the most, though none waits", () -> {
            VaneVotes x = Villages.steady(9);
            for (int mill = 0; mill < 3; mill++) {
                x.mill(mill, 9);
            }
            C.due("sacks", x.hourOf(0, 4), 60);
            x.bring(0, 0, 1);
            C.due("sacks, though one waits", x.hourOf(0, 4), 60);
        });
    }

    private static void hoursOfVanes() {
        C.test("promise 17: hours with whose winds it agrees: none, one, all", () -> {
            VaneVotes x = Villages.steady(5);
            C.due("all", x.vaneOf(0, 4), 24);
            x.vane(0, 2, 6);
            C.due("none", x.vaneOf(0, 4), 0);
            x.wind(23, 3, 6);
            C.due("one", x.vaneOf(0, 4), 1);
            VaneVotes y = new VaneVotes();
            y.vane(5, 1, 4);
            y.vane(5, 2, 0);
            C.due("all winds at first", y.vaneOf(5, 4), 24);
        });
        C.test("promise 17: stuck or not", () -> {
            VaneVotes x = Villages.steady(5);
            x.vane(5, 3, 1);
            C.due("stuck", x.vaneOf(5, 4), 24);
            x.set(0, 6);
            C.due("also without a quorum", x.vaneOf(5, 4), 24);
        });
    }

    private static void whenAVaneMatters() {
        C.test("promise 17: another answer, as the quorum would be missed, or reached: none, all hours", () -> {
            VaneVotes x = Villages.steady(5);
            x.set(0, 5);
            C.due("one more than the quorum", x.vaneOf(5, 5), 0);
            x.set(0, 6);
            C.due("just the quorum", x.vaneOf(5, 5), 24);
            x.vane(5, 3, 1);
            C.due("one below, the stuck one", x.vaneOf(5, 5), 24);
            C.due("one below, another one", x.vaneOf(0, 5), 0);
            x.vane(4, 3, 1);
            C.due("two below", x.vaneOf(5, 5), 0);
        });
        C.test("promise 17: whether it agrees, not why", () -> {
            // three of six are too few that agree, and without one of them the six are too few vanes
            VaneVotes x = onlyHour9(6, 3);
            x.set(0, 6);
            C.due("why", x.hourOf(9, 3), 2);
            for (int vane = 0; vane < 6; vane++) {
                C.due("six vanes, " + vane, x.vaneOf(vane, 5), 0);
            }
            x.vane(5, 3, 1);
            C.due("why without vane 5", x.hourOf(9, 3), 1);
            for (int vane = 0; vane < 6; vane++) {
                C.due("five vanes, " + vane, x.vaneOf(vane, 5), 0);
            }
        });
        C.test("promise 17: more than half, with one vote more or less", () -> {
            // the setting 1, the votes, how much one that agrees matters, and how much one that does not
            int[][] ofSix = {{0, 2, 0, 0}, {0, 3, 0, 1}, {0, 4, 0, 0}, {1, 2, 0, 0}, {1, 3, 1, 0}, {1, 4, 0, 0}};
            dueMatters(6, ofSix);
            int[][] ofFive = {{0, 2, 0, 0}, {0, 3, 1, 0}, {1, 2, 0, 1}, {1, 3, 0, 0}};
            dueMatters(5, ofFive);
        });
        C.test("promise 17: if this vane was not stuck, that would agree, or would not", () -> {
            // the setting 1, the votes of five, how much the stuck one matters if it would agree, and if not
            int[][] due = {{0, 2, 0, 0}, {0, 3, 0, 1}, {0, 4, 0, 0}, {1, 2, 1, 0}, {1, 3, 0, 0}, {1, 1, 0, 0}};
            for (int[] one : due) {
                VaneVotes x = onlyHour9(5, one[1]);
                x.set(1, one[0]);
                C.due(one[1] + " of 5, would agree", x.vaneOf(5, 5), one[2]);
                x.vane(5, 0, 7);
                C.due(one[1] + " of 5, would not agree", x.vaneOf(5, 5), one[3]);
            }
        });
        C.test("promise 17: the last vane, and the first one of none", () -> {
            VaneVotes x = onlyHour9(1, 1);
            C.due("the last vane", x.vaneOf(0, 5), 1);
            x.vane(0, 3, 1);
            C.due("the first vane", x.vaneOf(0, 5), 1);
            C.due("another first vane", x.vaneOf(5, 5), 1);
            x.set(1, 1);
            C.due("if half is enough none of none is not", x.vaneOf(0, 5), 1);
        });
    }

    /** The committee may agree in hour 9 alone: no other one has the least strength. */
    private static VaneVotes onlyHour9(int size, int agreeing) {
        VaneVotes x = Villages.voting(size, agreeing);
        x.set(0, 1);
        x.wind(9, 3, 9);
        x.wind(19, 3, 0);
        for (int vane = 0; vane < 6; vane++) {
            x.vane(vane, 2, 9);
        }
        return x;
    }

    private static void dueMatters(int size, int[][] due) {
        for (int[] one : due) {
            VaneVotes x = onlyHour9(size, one[1]);
            x.set(1, one[0]);
            String votes = one[1] + " of " + size + " with setting 1 as " + one[0];
            C.due(votes + ", one that agrees", x.vaneOf(0, 5), one[2]);
            C.due(votes + ", one that does not", x.vaneOf(size - 1, 5), one[3]);
        }
    }

    private static void mills() {
        C.test("promise 18: lots and sacks that wait: none, the most", () -> {
            VaneVotes x = new VaneVotes();
            C.due("no lots", x.millOf(2, 1), 0);
            C.due("no sacks", x.millOf(2, 2), 0);
            for (int lot = 0; lot < 8; lot++) {
                x.bring(0, 2, 99);
            }
            C.due("the most lots", x.millOf(2, 1), 8);
            C.due("the most sacks", x.millOf(2, 2), 792);
            C.due("none at mill 1", x.millOf(1, 2), 0);
        });
        C.test("promise 18: the owner of the first lot, NONE without one: before, while and behind it waits", () -> {
            VaneVotes x = Villages.steady(4);
            C.due("before", x.millOf(0, 4), NONE);
            x.bring(0, 0, 2);
            C.due("owner 0", x.millOf(0, 4), 0);
            x.bring(4, 0, 2);
            x.pass(1);
            C.due("the next one", x.millOf(0, 4), 4);
            x.pass(1);
            C.due("all is ground", x.millOf(0, 4), NONE);
            x.bring(3, 0, 2);
            x.takeBack(0);
            C.due("taken back", x.millOf(0, 4), NONE);
        });
        C.test("promise 18: sacks ground so far, and no more than waited", () -> {
            VaneVotes x = Villages.steady(9);
            x.mill(1, 9);
            C.due("none", x.millOf(1, 3), 0);
            x.pass(1);
            C.due("none waited", x.millOf(1, 3), 0);
            x.bring(0, 1, 21);
            x.pass(1);
            C.due("twenty", x.millOf(1, 3), 20);
            x.pass(1);
            C.due("the last one", x.millOf(1, 3), 21);
            x.bring(0, 1, 5);
            x.takeBack(1);
            C.due("what is taken back is not ground", x.millOf(1, 3), 21);
        });
        C.test("promise 18: sacks of a day, if enough waited: none, the most", () -> {
            VaneVotes x = Villages.steady(9);
            x.mill(0, 9);
            C.due("the most", x.millOf(0, 5), 24 * 20);
            x.mill(0, 0);
            C.due("speed 0", x.millOf(0, 5), 0);
            VaneVotes y = Villages.turningIn();
            C.due("no hour", y.millOf(0, 5), 0);
            y.wind(23, 3, 2);
            C.due("hour 23 alone", y.millOf(0, 5), 1);
            y.pass(24);
            C.due("from any hour on", y.millOf(0, 5), 1);
        });
    }

    private static void owners() {
        C.test("promise 19: sacks that wait at all mills: none, at one, at all", () -> {
            VaneVotes x = new VaneVotes();
            C.due("none", x.ownerOf(4, 0), 0);
            x.bring(4, 2, 99);
            C.due("at mill 2", x.ownerOf(4, 0), 99);
            x.bring(4, 0, 1);
            x.bring(3, 0, 9);
            x.bring(4, 1, 10);
            C.due("at all", x.ownerOf(4, 0), 110);
            C.due("of owner 3", x.ownerOf(3, 0), 9);
        });
        C.test("promise 19: several lots of one owner at one mill", () -> {
            VaneVotes x = Villages.steady(4);
            x.bring(1, 0, 3);
            x.bring(2, 0, 4);
            x.bring(1, 0, 5);
            C.due("waiting", x.ownerOf(1, 0), 8);
            C.due("brought", x.ownerOf(1, 2), 8);
            x.pass(1);
            C.due("what is left of both", x.ownerOf(1, 0), 6);
            x.pass(3);
            C.due("flour of both", x.ownerOf(1, 1), 4);
        });
        C.test("promise 19: what is refused is not brought, and what is ground not taken back", () -> {
            VaneVotes x = Villages.steady(4);
            for (int lot = 0; lot < 8; lot++) {
                x.bring(0, 0, 3);
            }
            x.bring(0, 0, 99);
            C.due("brought", x.ownerOf(0, 2), 24);
            x.takeBack(1);
            C.due("taken back", x.ownerOf(0, 3), 0);
            x.pass(11);
            C.due("two sacks are left", x.takeBack(0), 2);
            C.due("taken back", x.ownerOf(0, 3), 2);
            C.due("flour", x.ownerOf(0, 1), 22);
            C.due("waiting", x.ownerOf(0, 0), 0);
        });
    }

    private static void counts() {
        C.test("promise 20: the hours in which the mills turned, whether anything was ground or not", () -> {
            VaneVotes x = Villages.steady(0);
            x.pass(24);
            C.due("without wind", x.count(2), 24);
            VaneVotes y = Villages.turningIn(0, 23);
            y.pass(23);
            C.due("hours 0 to 22", y.count(2), 1);
            y.pass(1);
            C.due("hour 23", y.count(2), 2);
            y.set(0, 6);
            y.vane(0, 3, 1);
            y.pass(99);
            C.due("without a quorum", y.count(2), 2);
            C.due("hours", y.count(1), 123);
        });
        C.test("promise 20: vanes of the committee: all, none", () -> {
            C.due("all", new VaneVotes().count(3), 6);
            C.due("none", Villages.voting(0, 0).count(3), 0);
        });
        C.test("promise 20: hours of the day in which it agrees: none, one, all", () -> {
            C.due("none", Villages.turningIn().count(4), 0);
            C.due("hour 0", Villages.turningIn(0).count(4), 1);
            C.due("hour 23", Villages.turningIn(23).count(4), 1);
            C.due("all", Villages.steady(0).count(4), 24);
        });
        C.test("promise 20: sacks that wait, and flour: none, the most that can wait", () -> {
            VaneVotes x = Villages.steady(9);
            for (int lot = 0; lot < 24; lot++) {
                x.bring(lot % 5, lot / 8, 99);
            }
            C.due("waiting", x.count(5), 24 * 99);
            C.due("flour", x.count(6), 0);
            for (int mill = 0; mill < 3; mill++) {
                x.mill(mill, 9);
            }
            x.pass(40);
            C.due("waiting", x.count(5), 0);
            C.due("flour", x.count(6), 24 * 99);
        });
        C.test("promise 20: what was refused: lots at a full mill, none to take back, but no exception", () -> {
            VaneVotes x = Villages.lots(0, 8);
            C.due("none", x.count(7), 0);
            x.bring(0, 0, 1);
            x.takeBack(1);
            C.due("two", x.count(7), 2);
            C.dueThrow("bring", x, Checks.ARGUMENT, () -> x.bring(0, 0, 0));
            C.dueThrow("takeBack", x, Checks.INDEX, () -> x.takeBack(3));
            C.due("two still", x.count(7), 2);
        });
        C.test("promise 20: saved states, up to six", () -> {
            VaneVotes x = new VaneVotes();
            for (int call = 0; call <= 8; call++) {
                C.due("saved states", x.count(8), Math.min(6, call));
                x.pass(1);
            }
        });
    }

    private static void settings() {
        C.test("promise 21: the quorum is at first 3, the least is 1, the most 6", () -> {
            VaneVotes x = new VaneVotes();
            C.due("at first", x.setting(0), 3);
            x.set(0, 1);
            C.due("the least", x.setting(0), 1);
            x.set(0, 6);
            C.due("the most", x.setting(0), 6);
            C.due("the other one", x.setting(1), 0);
        });
        C.test("promise 21: half is at first not enough", () -> {
            VaneVotes x = new VaneVotes();
            C.due("at first", x.setting(1), 0);
            x.set(1, 1);
            C.due("the most", x.setting(1), 1);
            C.due("the other one", x.setting(0), 3);
        });
    }

    private static void dueDone(String name, VaneVotes x, int mill, int want) {
        C.due(name + ", by hours", x.doneIn(mill, 0), want);
        C.due(name + ", by days", x.doneIn(mill, 1), want);
    }

    private static void doneIn() {
        C.test("promise 22: 0 if none waits, also if the mill never turns", () -> {
            VaneVotes x = new VaneVotes();
            dueDone("at first", x, 0, 0);
            x.bring(0, 1, 5);
            dueDone("another mill", x, 0, 0);
            x.mill(0, 0);
            dueDone("speed 0", x, 0, 0);
            VaneVotes y = Villages.turningIn();
            dueDone("no hour", y, 2, 0);
            y.bring(0, 2, 5);
            y.takeBack(2);
            dueDone("taken back", y, 2, 0);
        });
        C.test("promise 22: NONE if it never comes to that: no hour, no speed, too little of both", () -> {
            VaneVotes x = Villages.turningIn();
            x.bring(0, 0, 1);
            dueDone("no hour", x, 0, NONE);
            x.wind(5, 3, 1);
            dueDone("too little wind", x, 0, NONE);
            x.mill(0, 4);
            dueDone("just enough", x, 0, 6);
            x.mill(0, 0);
            dueDone("no speed", x, 0, NONE);
            VaneVotes y = Villages.steady(9);
            y.bring(0, 0, 1);
            y.set(0, 6);
            y.vane(0, 3, 1);
            dueDone("no quorum", y, 0, NONE);
        });
        C.test("promise 22: the hour of the clock is the first: 1, and 24 if it is just gone", () -> {
            VaneVotes x = Villages.turningIn(23);
            x.bring(0, 0, 2);
            dueDone("at hour 0", x, 0, 24);
            x.pass(23);
            dueDone("at hour 23", x, 0, 1);
            x.bring(0, 0, 1);
            dueDone("at hour 23, one sack more", x, 0, 25);
            x.pass(1);
            dueDone("behind hour 23", x, 0, 24);
        });
    }

    private static void doneInOverDays() {
        C.test("promise 22: by days: one below a day's sacks, just these, one more", () -> {
            // 4 sacks a day, in the hours 3 and 20
            int[][] due = {{1, 4}, {2, 4}, {3, 21}, {4, 21}, {5, 28}, {6, 28}, {7, 45}, {8, 45},
                {9, 52}, {99, 24 * 24 + 21}};
            for (int[] one : due) {
                VaneVotes x = Villages.turningIn(3, 20);
                x.bring(1, 1, one[0]);
                dueDone(one[0] + " sacks at hour 0", x, 1, one[1]);
            }
        });
        C.test("promise 22: by days, that begin at the clock", () -> {
            int[][] due = {{1, 11}, {2, 11}, {3, 18}, {4, 18}, {5, 35}, {8, 42}, {9, 59}};
            for (int[] one : due) {
                VaneVotes x = Villages.turningIn(3, 20);
                x.pass(10);
                x.bring(1, 1, one[0]);
                dueDone(one[0] + " sacks at hour 10", x, 1, one[1]);
            }
        });
        C.test("promise 22: the most sacks by the slowest mill, and by the fastest", () -> {
            VaneVotes x = Villages.turningIn(0);
            x.mill(0, 1);
            for (int lot = 0; lot < 8; lot++) {
                x.bring(lot % 5, 0, 99);
            }
            dueDone("at hour 0", x, 0, 791 * 24 + 1);
            x.wind(0, 7, 4);
            x.wind(23, 3, 4);
            dueDone("the last hour of a day alone", x, 0, 792 * 24);
            VaneVotes y = Villages.steady(9);
            y.mill(0, 9);
            for (int lot = 0; lot < 8; lot++) {
                y.bring(lot % 5, 0, 99);
            }
            dueDone("792 by 20", y, 0, 40);
        });
        C.test("promise 22: what is told comes true", () -> {
            VaneVotes x = new VaneVotes();
            x.pass(5);
            x.bring(0, 0, 41);
            int hours = x.doneIn(0, 1);
            x.pass(hours - 1);
            C.due("an hour before", x.millOf(0, 1), 1);
            x.pass(1);
            C.due("then", x.millOf(0, 1), 0);
        });
    }

    private static void ifPassed() {
        C.test("promise 23: an owner without sacks gets none, nor does one without an hour that turns", () -> {
            VaneVotes x = Villages.turningIn();
            x.bring(0, 0, 50);
            C.due("no sacks", x.ifPassed(1, 99), 0);
            C.due("no hour", x.ifPassed(0, 99), 0);
        });
        C.test("promise 23: 1 hour is that of the clock, 24 hours the day round", () -> {
            VaneVotes x = Villages.turningIn(23);
            x.bring(0, 0, 50);
            C.due("hour 0", x.ifPassed(0, 1), 0);
            C.due("hours 0 to 22", x.ifPassed(0, 23), 0);
            C.due("hours 0 to 23", x.ifPassed(0, 24), 2);
            x.pass(23);
            C.due("hour 23", x.ifPassed(0, 1), 2);
            C.due("hours 23 to 22", x.ifPassed(0, 24), 2);
            C.due("hours 23 to 23", x.ifPassed(0, 25), 4);
            C.due("to the third 23", x.ifPassed(0, 49), 6);
            C.due("to the fourth 23", x.ifPassed(0, 73), 8);
            C.due("an hour less", x.ifPassed(0, 96), 8);
            C.due("to the fifth 23", x.ifPassed(0, 97), 10);
            C.due("the most hours", x.ifPassed(0, 99), 10);
        });
        C.test("promise 23: no more than the sacks: one below, just as many, one more", () -> {
            for (int sacks = 7; sacks <= 9; sacks++) {
                VaneVotes x = Villages.steady(4);
                x.bring(3, 2, sacks);
                C.due("of " + sacks, x.ifPassed(3, 4), Math.min(sacks, 8));
            }
        });
        C.test("promise 23: of the own lots alone, up to a lot's end and over it, at all mills", () -> {
            VaneVotes x = Villages.steady(4);
            x.bring(0, 0, 4);
            x.bring(1, 0, 2);
            x.bring(0, 0, 9);
            x.bring(0, 2, 3);
            int[] due0 = {4, 7, 7, 9, 11};
            int[] due1 = {0, 0, 2, 2, 2};
            for (int hours = 1; hours <= 5; hours++) {
                C.due("owner 0 in " + hours, x.ifPassed(0, hours), due0[hours - 1]);
                C.due("owner 1 in " + hours, x.ifPassed(1, hours), due1[hours - 1]);
            }
        });
        C.test("promise 23: the last sack of an hour is of the next lot", () -> {
            VaneVotes x = Villages.steady(4);
            x.bring(0, 1, 1);
            x.bring(1, 1, 9);
            x.bring(2, 1, 9);
            C.due("the one", x.ifPassed(0, 1), 1);
            C.due("the next one", x.ifPassed(1, 1), 1);
            C.due("all of the next one", x.ifPassed(1, 5), 9);
            C.due("none of the one behind it", x.ifPassed(2, 5), 0);
        });
        C.test("promise 23: what comes, not what there is already", () -> {
            VaneVotes x = Villages.steady(4);
            x.bring(0, 0, 5);
            x.pass(2);
            C.due("the last sack", x.ifPassed(0, 99), 1);
            x.pass(1);
            C.due("none is left", x.ifPassed(0, 99), 0);
        });
    }

    private static void turnsIn() {
        C.test("promise 24: 0 if it is that of the clock, 23 if it has just gone by", () -> {
            for (int hour : new int[] {0, 11, 23}) {
                VaneVotes x = Villages.turningIn(hour);
                C.due("at hour 0", x.turnsIn(), hour);
                x.pass(hour + 1);
                C.due("behind hour " + hour, x.turnsIn(), 23);
                x.pass(23);
                C.due("at hour " + hour, x.turnsIn(), 0);
            }
        });
        C.test("promise 24: the next one, over the end of the day", () -> {
            VaneVotes x = Villages.turningIn(2, 5);
            x.pass(3);
            C.due("at hour 3", x.turnsIn(), 2);
            x.pass(3);
            C.due("at hour 6", x.turnsIn(), 20);
        });
        C.test("promise 24: NONE if there is none", () -> {
            C.due("no hour", Villages.turningIn().turnsIn(), NONE);
            VaneVotes x = Villages.steady(4);
            x.set(0, 6);
            x.vane(5, 3, 1);
            C.due("no quorum", x.turnsIn(), NONE);
        });
        C.test("promise 24: an hour in which nothing is ground counts, too", () ->
            C.due("without wind and sacks", Villages.steady(0).turnsIn(), 0));
    }

    private static void mainVane() {
        C.test("promise 25: of several the lowest, also if all have none or all hours", () -> {
            VaneVotes x = Villages.steady(4);
            C.due("none matters", x.mainVane(), 0);
            x.set(0, 6);
            C.due("all matter", x.mainVane(), 0);
        });
        C.test("promise 25: each one alone", () -> {
            for (int vane = 0; vane < 6; vane++) {
                VaneVotes x = Villages.steady(4);
                x.set(0, 6);
                x.vane(vane, 3, 1);
                C.due("the one that the quorum lacks", x.mainVane(), vane);
            }
        });
        C.test("promise 25: the last one alone, and of the last two the first", () -> {
            VaneVotes x = Villages.steady(4);
            x.set(0, 6);
            x.vane(5, 3, 1);
            C.due("the stuck one", x.mainVane(), 5);
            x.set(0, 5);
            C.due("those of the quorum", x.mainVane(), 0);
            VaneVotes y = Villages.steady(4);
            for (int vane = 0; vane < 4; vane++) {
                y.vane(vane, 3, 1);
            }
            y.set(0, 2);
            C.due("the last two are the quorum", y.mainVane(), 4);
        });
    }

    private static void shareAndDigest() {
        C.test("promise 26: no hour, one, all", () -> {
            C.dueDouble("none", Villages.turningIn().turnShare(), 0.0);
            C.dueDouble("one", Villages.turningIn(23).turnShare(), 1 / 24.0);
            C.dueDouble("all", Villages.steady(0).turnShare(), 1.0);
        });
        C.test("promise 27: the bits of the share: none, half, all", () -> {
            VaneVotes half = Villages.turningIn(0, 1, 2, 3, 4, 5, 6, 7, 8, 9, 10, 11);
            C.due("half", half.digest(), Villages.digestOf(half, 0, 0, ""));
            VaneVotes none = Villages.turningIn();
            C.due("none", none.digest(), Villages.digestOf(none, 0, 0, ""));
            VaneVotes all = Villages.steady(9);
            C.due("all", all.digest(), Villages.digestOf(all, 0, 0, ""));
        });
        C.test("promise 27: an empty buffer and a full one, no slot and both", () -> {
            VaneVotes x = new VaneVotes();
            C.due("empty", x.digest(), Villages.digestOf(x, 0, 0, ""));
            String text = "!~".repeat(30);
            VaneVotes y = Villages.typed(text);
            y.keep(0);
            y.keep(1);
            C.due("full", y.digest(), Villages.digestOf(y, 1, 1, text));
        });
        C.test("promise 27: the characters behind a cleared buffer's end do not count", () -> {
            VaneVotes x = Villages.typed("0=00");
            x.clearBuffer();
            C.due("cleared", x.digest(), new VaneVotes().digest());
            VaneVotes y = Villages.typed("0=00");
            Villages.type(y, "1");
            C.due("a shorter text", y.digest(), Villages.typed("1").digest());
        });
        C.test("promise 27: ifPassed of 9, not of one hour less or more", () -> {
            VaneVotes x = Villages.turningIn(8, 9);
            x.bring(0, 0, 3);
            x.bring(4, 1, 99);
            C.due("at hour 0", x.digest(), Villages.digestOf(x, 0, 0, ""));
            VaneVotes y = Villages.turningIn(8, 9);
            y.bring(0, 0, 3);
            y.bring(4, 1, 99);
            y.pass(1);
            C.due("at hour 1", y.digest(), Villages.digestOf(y, 0, 0, ""));
        });
        C.test("promise 27: full mills and mills that are never done", () -> {
            VaneVotes x = Villages.lots(2, 8);
            x.mill(2, 0);
            x.bring(0, 2, 1);
            C.due("digest", x.digest(), Villages.digestOf(x, 0, 0, ""));
        });
    }

    private static void nothingIsChanged() {
        C.test("promises 16 to 27: nothing is changed", () -> {
            C.dueNoChange("hourOf", Villages::rich, x -> x.hourOf(23, 4));
            C.dueNoChange("vaneOf", Villages::rich, x -> x.vaneOf(5, 5));
            C.dueNoChange("millOf", Villages::rich, x -> x.millOf(2, 5));
            C.dueNoChange("ownerOf", Villages::rich, x -> x.ownerOf(4, 3));
            C.dueNoChange("count", Villages::rich, x -> x.count(8));
            C.dueNoChange("setting", Villages::rich, x -> x.setting(1));
            C.dueNoChange("doneIn by hours", Villages::rich, x -> x.doneIn(0, 0));
            C.dueNoChange("doneIn by days", Villages::rich, x -> x.doneIn(0, 1));
            C.dueNoChange("ifPassed", Villages::rich, x -> x.ifPassed(4, 99));
            C.dueNoChange("turnsIn", Villages::rich, x -> x.turnsIn());
            C.dueNoChange("mainVane", Villages::rich, x -> x.mainVane());
            C.dueNoChange("turnShare", Villages::rich, x -> x.turnShare());
            C.dueNoChange("digest", Villages::rich, x -> x.digest());
        });
    }
}
