/** Promises 1 to 15: a test of its own for each sentence that names a boundary case, but for those of RangesTest. */
public final class ChangesTest {
    private static final int NONE = VaneVotes.NONE;
    private static final Checks C = new Checks();

    public static void main(String[] args) {
        newObject();
        winds();
        vanes();
        millsAndSettings();
        bringing();
        takingBack();
        passing();
        theLimitOfHours();
        buffer();
        errors();
        loading();
        refusedTexts();
        keepingAndGoingBack();
        undoing();
        C.end();
    }

    private static int windOf(VaneVotes x, int hour) {
        return 10 * x.hourOf(hour, 0) + x.hourOf(hour, 1);
    }

    /** The call is undoable: it saves one state, which brings back all that was before. */
    private static void dueUndoable(VaneVotes x, Checks.Call call) {
        long before = Villages.digestWithout(x);
        int saved = x.count(8);
        call.run();
        C.due("saved states", x.count(8), saved + 1);
        C.due("undo", x.undo(), saved);
        C.due("what undo brings back", Villages.digestWithout(x), before);
    }

    private static void newObject() {
        C.test("promise 1: without sacks", () -> {
            VaneVotes x = new VaneVotes();
            C.due("sacks", x.count(5), 0);
            for (int mill = 0; mill < 3; mill++) {
                C.due("lots", x.millOf(mill, 1), 0);
                C.due("takeBack", x.takeBack(mill), NONE);
            }
        });
        C.test("promise 1: at the hour 0", () -> C.due("clock", new VaneVotes().count(0), 0));
        C.test("promise 1: empty slots", () -> {
            C.dueThrow("goBack(0)", VaneVotes::new, Checks.STATE, x -> x.goBack(0));
            C.dueThrow("goBack(1)", VaneVotes::new, Checks.STATE, x -> x.goBack(1));
        });
        C.test("promise 1: an empty buffer", () -> {
            C.due("clearBuffer", new VaneVotes().clearBuffer(), 0);
            C.due("firstError", new VaneVotes().firstError(), 0);
            C.due("append", new VaneVotes().append('x'), 1);
        });
        C.test("promise 1: nothing is saved or counted", () -> {
            VaneVotes x = new VaneVotes();
            for (int what : new int[] {1, 2, 6, 7, 8}) {
                C.due("count(" + what + ")", x.count(what), 0);
            }
            C.dueThrow("undo", VaneVotes::new, Checks.STATE, y -> y.undo());
        });
    }

    private static void winds() {
        C.test("promise 2: 10 times the side, and the strength, as they were: the least and the most", () -> {
            VaneVotes x = new VaneVotes();
            C.due("as at first", x.wind(0, 7, 9), 0);
            C.due("the most", x.wind(0, 0, 9), 79);
            C.due("no side", x.wind(0, 7, 0), 9);
            C.due("no strength", x.wind(0, 0, 0), 70);
            C.due("the least", x.wind(0, 1, 1), 0);
        });
        C.test("promise 2: the first and the last hour, and none beside", () -> {
            VaneVotes x = new VaneVotes();
            x.wind(0, 5, 5);
            x.wind(23, 6, 6);
            C.due("hour 0", windOf(x, 0), 55);
            C.due("hour 1", windOf(x, 1), 11);
            C.due("hour 22", windOf(x, 22), 62);
            C.due("hour 23", windOf(x, 23), 66);
        });
        C.test("promise 2: undoable in each hour, also if it changes nothing", () -> {
            for (int hour = 0; hour < 24; hour++) {
                VaneVotes x = new VaneVotes();
                int at = hour;
                dueUndoable(x, () -> x.wind(at, 7 - at % 8, 9 - at % 10));
                dueUndoable(x, () -> x.wind(at, at % 8, at % 10));
            }
        });
    }

    private static void vanes() {
        int[] first = {5, 2, 1, 0};
        int[] most = {7, 4, 9, 1};
        C.test("promise 3: each value at its least and its most, and what it was", () -> {
            for (int what = 0; what < 4; what++) {
                VaneVotes x = new VaneVotes();
                C.due("as at first", x.vane(5, what, most[what]), first[what]);
                C.due("the most", x.vaneOf(5, what), most[what]);
                C.due("it was the most", x.vane(5, what, 0), most[what]);
                C.due("the least", x.vaneOf(5, what), 0);
                C.due("it was the least", x.vane(5, what, 0), 0);
            }
        });
        C.test("promise 3: one number of one vane, and none beside", () -> {
            VaneVotes x = new VaneVotes();
            x.vane(0, 3, 1);
            x.vane(5, 0, 0);
            C.due("vane 0", x.vaneOf(0, 3), 1);
            C.due("vane 1", x.vaneOf(1, 3), 0);
            C.due("vane 5", x.vaneOf(5, 3), 0);
            C.due("vane 4 faces", x.vaneOf(4, 0), 4);
            C.due("vane 5 reaches", x.vaneOf(5, 1), 2);
        });
        C.test("promise 3: stuck twice is stuck, and loose twice is loose", () -> {
            VaneVotes x = new VaneVotes();
            C.due("loose", x.vane(2, 3, 1), 0);
            C.due("stuck", x.vane(2, 3, 1), 1);
            C.due("committee", x.count(3), 5);
            C.due("stuck", x.vane(2, 3, 0), 1);
            C.due("loose", x.vane(2, 3, 0), 0);
            C.due("committee", x.count(3), 6);
        });
        C.test("promise 3: undoable of each vane, also if it changes nothing", () -> {
            for (int i = 0; i < 24; i++) {
                VaneVotes x = new VaneVotes();
                int vane = i / 4;
                int what = i % 4;
                dueUndoable(x, () -> x.vane(vane, what, most[what]));
                dueUndoable(x, () -> x.vane(vane, what, what == 0 ? vane : first[what]));
            }
        });
    }

    private static void millsAndSettings() {
        C.test("promise 4: the speed before, the least and the most", () -> {
            VaneVotes x = new VaneVotes();
            C.due("as at first", x.mill(2, 9), 2);
            C.due("the most", x.mill(2, 0), 9);
            C.due("the least", x.mill(2, 0), 0);
            C.due("mill 1 beside", x.mill(1, 1), 2);
            C.due("mill 0", x.mill(0, 1), 2);
        });
        C.test("promise 4: speed 0 grinds nothing, also in the strongest wind", () -> {
            VaneVotes x = Villages.steady(9);
            x.mill(0, 0);
            x.bring(0, 0, 1);
            C.due("pass", x.pass(99), 0);
            C.due("turned", x.count(2), 99);
            C.due("waits", x.count(5), 1);
        });
        C.test("promise 4: undoable of each mill, also if it changes nothing", () -> {
            VaneVotes x = new VaneVotes();
            for (int i = 0; i < 3; i++) {
                int mill = i;
                dueUndoable(x, () -> x.mill(mill, 9));
                dueUndoable(x, () -> x.mill(mill, 2));
            }
        });
        C.test("promise 5: the previous value, the least and the most", () -> {
            VaneVotes x = new VaneVotes();
            C.due("quorum as at first", x.set(0, 6), 3);
            C.due("the most", x.set(0, 1), 6);
            C.due("the least", x.set(0, 1), 1);
            C.due("half as at first", x.set(1, 1), 0);
            C.due("the most", x.set(1, 0), 1);
            C.due("the least", x.set(1, 0), 0);
        });
        C.test("promise 5: 0 is out of the range of the quorum alone, 2 of the other alone", () -> {
            C.dueThrow("set(0, 0)", Villages::rich, Checks.ARGUMENT, x -> x.set(0, 0));
            C.due("set(1, 0)", Villages.rich().set(1, 0), 0);
            C.dueThrow("set(1, 2)", Villages::rich, Checks.ARGUMENT, x -> x.set(1, 2));
            C.due("set(0, 2)", Villages.rich().set(0, 2), 3);
        });
        C.test("promise 5: no such setting comes before the value", () -> {
            C.dueThrow("set(2, 7)", Villages::rich, Checks.INDEX, x -> x.set(2, 7));
            C.dueThrow("set(-1, -1)", Villages::rich, Checks.INDEX, x -> x.set(-1, -1));
        });
        C.test("promise 5: undoable, also if it changes nothing", () -> {
            VaneVotes x = new VaneVotes();
            dueUndoable(x, () -> x.set(0, 6));
            dueUndoable(x, () -> x.set(1, 1));
            dueUndoable(x, () -> x.set(0, 3));
            dueUndoable(x, () -> x.set(1, 0));
        });
    }

    private static void bringing() {
        C.test("promise 6: 1 sack and 99 sacks, up to eight lots of the most", () -> {
            VaneVotes x = new VaneVotes();
            C.due("1 sack", x.bring(0, 0, 1), 1);
            for (int lot = 1; lot <= 8; lot++) {
                C.due("lot " + lot, x.bring(4, 2, 99), 99 * lot);
            }
            C.due("waiting at mill 0 alone", x.bring(0, 0, 1), 2);
            C.due("all", x.count(5), 794);
        });
        C.test("promise 6: NONE if it is refused, as 8 lots wait; nothing but what was refused changes", () -> {
            VaneVotes x = Villages.lots(1, 8);
            x.keep(0);
            long before = Villages.digestWithout(x);
            C.due("refused", x.bring(4, 1, 99), NONE);
            C.due("count(7)", x.count(7), 1);
            C.due("refused again", x.bring(0, 1, 1), NONE);
            C.due("count(7)", x.count(7), 2);
            C.due("brought", x.ownerOf(4, 2), 1);
            C.due("sacks", x.millOf(1, 2), 8);
            x.undo();
            x.undo();
            C.due("all", Villages.digestWithout(x), before);
        });
        C.test("promise 6: a full mill keeps no other one from taking lots", () -> {
            VaneVotes x = Villages.lots(1, 8);
            C.due("mill 0", x.bring(3, 0, 5), 5);
            C.due("mill 2", x.bring(3, 2, 6), 6);
        });
        C.test("promise 6: behind those that wait", () -> {
            VaneVotes x = new VaneVotes();
            x.bring(1, 0, 5);
            x.bring(2, 0, 6);
            C.due("first owner", x.millOf(0, 4), 1);
            C.due("last lot", x.takeBack(0), 6);
            C.due("last lot", x.takeBack(0), 5);
        });
        C.test("promise 6: two lots of one owner stay two", () -> {
            VaneVotes x = new VaneVotes();
            x.bring(1, 0, 5);
            x.bring(1, 0, 6);
            C.due("lots", x.millOf(0, 1), 2);
        });
        C.test("promise 6: undoable, also if it is refused", () -> {
            VaneVotes x = Villages.lots(1, 8);
            x.keep(0);
            while (x.count(8) > 0) {
                x.undo();
            }
            dueUndoable(x, () -> x.bring(0, 1, 9));
            x.goBack(0);
            dueUndoable(x, () -> C.due("bring", x.bring(0, 1, 9), NONE));
            C.due("count(7)", x.count(7), 0);
        });
    }

    private static void takingBack() {
        C.test("promise 7: the last lot of eight, down to none", () -> {
            VaneVotes x = new VaneVotes();
            for (int lot = 1; lot <= 8; lot++) {
                x.bring(lot % 5, 2, lot);
            }
            for (int lot = 8; lot >= 1; lot--) {
                C.due("lot " + lot, x.takeBack(2), lot);
                C.due("lots", x.millOf(2, 1), lot - 1);
            }
            C.due("none", x.takeBack(2), NONE);
        });
        C.test("promise 7: its sacks, those that are left of it", () -> {
            VaneVotes x = Villages.steady(4);
            x.bring(1, 0, 5);
            x.pass(2);
            C.due("takeBack", x.takeBack(0), 1);
            C.due("taken back", x.ownerOf(1, 3), 1);
            C.due("brought", x.ownerOf(1, 2), 5);
            C.due("flour", x.ownerOf(1, 1), 4);
        });
        C.test("promise 7: two lots of one owner, one after the other", () -> {
            VaneVotes x = new VaneVotes();
            x.bring(4, 1, 3);
            x.bring(4, 1, 5);
            C.due("the last", x.takeBack(1), 5);
            C.due("the first", x.takeBack(1), 3);
            C.due("taken back of both", x.ownerOf(4, 3), 8);
        });
        C.test("promise 7: NONE if it is refused, as no lot waits: at first, and behind the last one", () -> {
            VaneVotes x = Villages.steady(4);
            C.due("at first", x.takeBack(0), NONE);
            x.bring(1, 0, 2);
            x.pass(1);
            C.due("all is ground", x.takeBack(0), NONE);
            x.bring(1, 0, 2);
            x.takeBack(0);
            C.due("all is taken back", x.takeBack(0), NONE);
            C.due("count(7)", x.count(7), 3);
            C.due("taken back", x.ownerOf(1, 3), 2);
        });
        C.test("promise 7: the lots of other mills do not count", () -> {
            VaneVotes x = Villages.lots(1, 8);
            C.due("mill 0", x.takeBack(0), NONE);
            C.due("mill 2", x.takeBack(2), NONE);
        });
        C.test("promise 7: undoable, also if it is refused", () -> {
            VaneVotes x = new VaneVotes();
            x.bring(1, 0, 2);
            dueUndoable(x, () -> x.takeBack(0));
            dueUndoable(x, () -> x.takeBack(1));
            C.due("count(7)", x.count(7), 0);
        });
    }

    private static void passing() {
        C.test("promise 8: each hour is that of the clock, also the first one", () -> {
            VaneVotes x = Villages.turningIn(0);
            x.bring(0, 0, 9);
            C.due("hour 0", x.pass(1), 2);
            VaneVotes y = Villages.turningIn(1);
            y.bring(0, 0, 9);
            C.due("hour 0", y.pass(1), 0);
            C.due("hour 1", y.pass(1), 2);
        });
        C.test("promise 8: the next hour, 0 behind 23", () -> {
            VaneVotes x = new VaneVotes();
            x.pass(23);
            C.due("clock", x.count(0), 23);
            x.pass(1);
            C.due("clock", x.count(0), 0);
            x.pass(24);
            C.due("a day on", x.count(0), 0);
            x.pass(25);
            C.due("a day and an hour on", x.count(0), 1);
            x.pass(99);
            C.due("99 hours on", x.count(0), 4);
            C.due("gone", x.count(1), 172);
        });
        C.test("promise 8: how many sacks are ground in them, at all mills: none, all, over many days", () -> {
            VaneVotes x = Villages.turningIn(23);
            C.due("no sacks", x.pass(99), 0);
            C.due("turned", x.count(2), 4);
            x.bring(0, 0, 9);
            x.bring(1, 1, 3);
            x.bring(2, 2, 1);
            C.due("99 hours", x.pass(99), 8 + 3 + 1);
            C.due("all the rest", x.pass(99), 1);
            C.due("no sacks", x.pass(99), 0);
        });
        C.test("promise 8: undoable, also without sacks", () -> {
            VaneVotes x = new VaneVotes();
            dueUndoable(x, () -> x.pass(1));
            x.bring(0, 0, 50);
            dueUndoable(x, () -> x.pass(99));
        });
    }

    /** So many hours take over 1000 calls; the document leaves these free, but the rule can't be seen otherwise. */
    private static VaneVotes gone(int hours) {
        VaneVotes x = Villages.turningIn(0, 7, 15);
        for (int lot = 0; lot < 8; lot++) {
            x.bring(lot % 5, 0, 99);
        }
        x.keep(0);
        x.mill(0, 0);
        for (int left = hours; left > 0; left -= 99) {
            x.pass(Math.min(99, left));
        }
        x.mill(0, 2);
        return x;
    }

    private static void theLimitOfHours() {
        C.test("promise 8: if more than 99999 hours would have gone by: just as many, one more", () -> {
            VaneVotes x = gone(99990);
            C.dueThrow("pass(10) at 99990", x, Checks.STATE, () -> x.pass(10));
            C.dueThrow("pass(99) at 99990", x, Checks.STATE, () -> x.pass(99));
            x.pass(9);
            C.due("gone", x.count(1), 99999);
            C.dueThrow("pass(1) at 99999", x, Checks.STATE, () -> x.pass(1));
            x.undo();
            x.pass(8);
            C.due("gone", x.count(1), 99998);
            C.dueThrow("pass(2) at 99998", x, Checks.STATE, () -> x.pass(2));
            x.pass(1);
            C.due("gone", x.count(1), 99999);
        });
        C.test("promise 8: hours out of range come before the limit", () -> {
            VaneVotes x = gone(99999);
            C.dueThrow("pass(0)", x, Checks.ARGUMENT, () -> x.pass(0));
            C.dueThrow("pass(100)", x, Checks.ARGUMENT, () -> x.pass(100));
        });
        C.test("promise 8: the limit counts the hours of the state, also behind goBack", () -> {
            VaneVotes x = gone(99999);
            x.goBack(0);
            C.due("gone", x.count(1), 0);
            x.pass(99);
            C.due("gone", x.count(1), 99);
        });
        C.test("promises 22 to 24: the limit of the hours does not matter for what would be", () -> {
            VaneVotes x = gone(99999);
            C.due("clock", x.count(0), 15);
            C.due("ifPassed", x.ifPassed(0, 99), 2 * 13);
            C.due("doneIn by hours", x.doneIn(0, 0), 131 * 24 + 17);
            C.due("doneIn by days", x.doneIn(0, 1), 131 * 24 + 17);
            C.due("turnsIn", x.turnsIn(), 0);
        });
    }

    private static void buffer() {
        C.test("promise 9: the new length, up to 60", () -> {
            VaneVotes x = new VaneVotes();
            C.due("the least code", x.append(33), 1);
            C.due("the greatest code", x.append(126), 2);
            for (int length = 3; length <= 60; length++) {
                C.due("append", x.append('0'), length);
            }
        });
        C.test("promise 9: if the buffer has 60 characters", () -> {
            C.dueThrow("append", ChangesTest::fullBuffer, Checks.STATE, x -> x.append('0'));
            C.dueThrow("append(32), both exceptions", ChangesTest::fullBuffer, Checks.ARGUMENT, x -> x.append(32));
            C.dueThrow("append(127), both exceptions", ChangesTest::fullBuffer, Checks.ARGUMENT, x -> x.append(127));
        });
        C.test("promise 10: the length that it had: empty, one character, full", () -> {
            VaneVotes x = fullBuffer();
            C.due("full", x.clearBuffer(), 60);
            C.due("empty", x.clearBuffer(), 0);
            x.append('~');
            C.due("one", x.clearBuffer(), 1);
            C.due("empty", x.clearBuffer(), 0);
        });
        C.test("promises 9 to 11 are not undoable, and undo leaves the buffer alone", () -> {
            VaneVotes x = new VaneVotes();
            x.mill(0, 5);
            Villages.type(x, "0=0");
            x.firstError();
            C.due("saved states", x.count(8), 1);
            C.due("undo", x.undo(), 0);
            C.due("length", x.clearBuffer(), 3);
            C.dueThrow("undo", x, Checks.STATE, x::undo);
        });
    }

    private static VaneVotes fullBuffer() {
        VaneVotes x = Villages.rich();
        Villages.type(x, "7=65;".repeat(12));
        return x;
    }

    private static void errors() {
        C.test("promise 11: the length of the buffer if there is none: empty, begun, whole, full", () -> {
            for (String text : new String[] {"", "2", "23", "23=", "23=7", "23=79", "23=79;", "7=65;".repeat(12)}) {
                C.due("firstError of " + text, Villages.typed(text).firstError(), text.length());
            }
        });
        C.test("promise 11: the index of the first one: the first character, the last of a full buffer", () -> {
            C.due("the first", Villages.typed("!").firstError(), 0);
            C.due("the first of many", Villages.typed("~".repeat(60)).firstError(), 0);
            C.due("the last", Villages.typed("7=65;".repeat(11) + "7=65~").firstError(), 59);
            C.due("in the midst", Villages.typed("7=65;7=85;7=95").firstError(), 7);
        });
        C.test("promise 11: a cleared buffer has no error any more", () -> {
            VaneVotes x = Villages.typed("~");
            x.clearBuffer();
            C.due("empty", x.firstError(), 0);
            x.append('1');
            C.due("anew", x.firstError(), 1);
        });
        C.test("promise 11: nothing is changed", () ->
            C.dueNoChange("firstError", Villages::rich, x -> x.firstError()));
    }

    private static VaneVotes loaded(String text) {
        VaneVotes x = Villages.typed(text);
        x.load();
        return x;
    }

    private static void loading() {
        C.test("promise 12: one wind, the least and the most", () -> {
            VaneVotes x = loaded("0=79");
            C.due("hour 0", windOf(x, 0), 79);
            C.due("hour 1", windOf(x, 1), 11);
            VaneVotes y = loaded("23=00");
            C.due("hour 23", windOf(y, 23), 0);
            C.due("hour 22", windOf(y, 22), 62);
            C.due("hour 2", windOf(y, 2), 22);
        });
        C.test("promise 12: each hour of the day, and no other one", () -> {
            for (int hour = 0; hour < 24; hour++) {
                VaneVotes x = loaded(hour + "=" + (7 - hour % 8) + (9 - hour % 10));
                for (int other = 0; other < 24; other++) {
                    int first = 10 * (other % 8) + other % 10;
                    C.due("hour " + other + " with " + hour, windOf(x, other), other == hour ? 79 - first : first);
                }
            }
        });
        C.test("promise 12: of several for one hour the last one", () -> {
            C.due("of two", windOf(loaded("5=11;5=22"), 5), 22);
            C.due("with another between", windOf(loaded("5=33;6=11;5=44;7=00"), 5), 44);
            C.due("of ten", windOf(loaded("15=11;".repeat(9) + "15=07"), 15), 7);
        });
        C.test("promise 12: a full buffer", () -> {
            String text = "1=76;".repeat(11) + "22=12";
            C.due("length", text.length(), 60);
            VaneVotes x = loaded(text);
            C.due("hour 1", windOf(x, 1), 76);
            C.due("hour 22", windOf(x, 22), 12);
        });
        C.test("promise 12: in how many hours of a day the committee agrees then: none, all", () -> {
            VaneVotes x = Villages.turningIn(4);
            Villages.type(x, "4=71");
            C.due("none", x.load(), 0);
            VaneVotes y = Villages.steady(4);
            y.wind(23, 7, 4);
            Villages.type(y, "23=30");
            C.due("all", y.load(), 24);
        });
        C.test("promise 12: clears the buffer", () -> {
            C.due("clearBuffer", loaded("5=11").clearBuffer(), 0);
            C.dueThrow("load again", () -> loaded("5=11"), Checks.ARGUMENT, x -> x.load());
        });
        C.test("promise 12: undoable, also if it changes nothing; the buffer stays clear", () -> {
            VaneVotes x = Villages.typed("5=11;5=22");
            dueUndoable(x, x::load);
            C.due("length", x.clearBuffer(), 0);
            Villages.type(x, "5=55");
            dueUndoable(x, x::load);
        });
    }

    private static void refusedTexts() {
        String[] texts = {
            "", "5", "5=", "5=1", "5=11;", "5=11;6", "5=11;6=", "5=11;6=1", "05=11", "24=11", "5=81", "5=111", ";5=11",
            "5=11;;6=11", "5=11,6=11", "5=1a", "=11", "5==11", "7=65;".repeat(12),
        };
        C.test("promise 12: if the buffer does not tell winds as a text; it stays, and no wind is taken", () -> {
            for (String text : texts) {
                C.dueThrow("load of " + text, () -> richWith(text), Checks.ARGUMENT, x -> x.load());
            }
        });
        C.test("promise 12: winds ahead of an error are not taken either", () -> {
            VaneVotes x = Villages.typed("0=79;5=1");
            C.dueThrow("load", x, Checks.ARGUMENT, x::load);
            C.due("hour 0", windOf(x, 0), 0);
            x.append('1');
            x.load();
            C.due("hour 0 behind the last character", windOf(x, 0), 79);
        });
    }

    private static VaneVotes richWith(String text) {
        VaneVotes x = Villages.rich();
        Villages.type(x, text);
        return x;
    }

    private static void keepingAndGoingBack() {
        C.test("promise 13: the hour of the clock: the first one, the last one", () -> {
            VaneVotes x = new VaneVotes();
            C.due("hour 0", x.keep(0), 0);
            x.pass(23);
            C.due("hour 23", x.keep(1), 23);
        });
        C.test("promise 13: in place of the one in the slot, and not of the other", () -> {
            VaneVotes x = new VaneVotes();
            x.keep(0);
            x.pass(1);
            x.keep(1);
            x.pass(1);
            x.keep(1);
            C.due("slot 1", x.goBack(1), 2);
            C.due("slot 0", x.goBack(0), 0);
        });
        C.test("promise 13: keep saves no state, and undo does not empty the slot", () -> {
            VaneVotes x = new VaneVotes();
            x.pass(7);
            x.keep(0);
            C.due("saved states", x.count(8), 1);
            x.undo();
            C.due("goBack", x.goBack(0), 7);
        });
        C.test("promise 14: if there is no snapshot in it, though there is one in the other", () -> {
            C.dueThrow("goBack(0)", () -> kept(1), Checks.STATE, x -> x.goBack(0));
            C.dueThrow("goBack(1)", () -> kept(0), Checks.STATE, x -> x.goBack(1));
        });
        C.test("promise 14: a slot out of range comes before an empty one", () -> {
            C.dueThrow("goBack(2)", VaneVotes::new, Checks.ARGUMENT, x -> x.goBack(2));
            C.dueThrow("goBack(-1)", VaneVotes::new, Checks.ARGUMENT, x -> x.goBack(-1));
        });
        C.test("promise 14: the snapshot stays, whatever happens behind it", () -> {
            VaneVotes x = Villages.rich();
            x.keep(1);
            long then = Villages.digestWithout(x);
            for (int round = 0; round < 3; round++) {
                x.takeBack(0);
                x.pass(80);
                x.bring(0, 2, 9);
                C.due("goBack", x.goBack(1), 3);
                C.due("all", Villages.digestWithout(x), then);
            }
        });
        C.test("promise 14: undoable, also if it changes nothing", () -> {
            VaneVotes x = kept(0);
            dueUndoable(x, () -> x.goBack(0));
            x.pass(1);
            dueUndoable(x, () -> x.goBack(0));
            C.due("clock", x.count(0), 4);
        });
    }

    private static VaneVotes kept(int slot) {
        VaneVotes x = new VaneVotes();
        x.pass(3);
        x.keep(slot);
        return x;
    }

    private static void undoing() {
        C.test("promise 15: how many saved states are left, down to none", () -> {
            VaneVotes x = new VaneVotes();
            for (int call = 0; call < 6; call++) {
                x.pass(1);
            }
            for (int left = 5; left >= 0; left--) {
                C.due("undo", x.undo(), left);
                C.due("clock", x.count(0), left);
            }
            C.dueThrow("undo", x, Checks.STATE, x::undo);
        });
        C.test("promise 15: six of seven, of twelve and of thirteen states, the rest is dropped", () -> {
            for (int calls : new int[] {7, 12, 13}) {
                VaneVotes x = new VaneVotes();
                for (int call = 0; call < calls; call++) {
                    x.pass(1);
                }
                for (int left = 5; left >= 0; left--) {
                    C.due("undo", x.undo(), left);
                }
                C.due("clock", x.count(0), calls - 6);
                C.dueThrow("undo", x, Checks.STATE, x::undo);
            }
        });
        C.test("promise 15: the latest state is dropped, so that the next undo takes the one before", () -> {
            VaneVotes x = new VaneVotes();
            x.pass(1);
            x.pass(2);
            x.undo();
            x.pass(4);
            C.due("saved states", x.count(8), 2);
            x.undo();
            C.due("clock", x.count(0), 1);
            x.undo();
            C.due("clock", x.count(0), 0);
            C.dueThrow("undo", x, Checks.STATE, x::undo);
        });
        C.test("promise 15: undo is not undoable, and leaves the slots and the buffer alone", () -> {
            VaneVotes x = new VaneVotes();
            x.pass(1);
            x.pass(1);
            x.keep(1);
            x.append('5');
            C.due("undo", x.undo(), 1);
            C.due("saved states", x.count(8), 1);
            C.due("length", x.clearBuffer(), 1);
            C.due("goBack", x.goBack(1), 2);
        });
        C.test("promise 15: all, also what is counted so far", () -> {
            VaneVotes x = Villages.steady(4);
            x.bring(1, 0, 9);
            x.pass(2);
            x.takeBack(0);
            x.takeBack(0);
            C.due("refused", x.count(7), 1);
            x.undo();
            C.due("refused before", x.count(7), 0);
            C.due("taken back", x.ownerOf(1, 3), 5);
            x.undo();
            C.due("taken back before", x.ownerOf(1, 3), 0);
            C.due("ground", x.millOf(0, 3), 4);
            C.due("hours", x.count(1), 2);
            C.due("turned", x.count(2), 2);
            x.undo();
            C.due("ground before", x.millOf(0, 3), 0);
            C.due("flour before", x.ownerOf(1, 1), 0);
            C.due("hours before", x.count(1), 0);
            C.due("turned before", x.count(2), 0);
            C.due("brought", x.ownerOf(1, 2), 9);
            x.undo();
            C.due("brought before", x.ownerOf(1, 2), 0);
        });
    }
}
