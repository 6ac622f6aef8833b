/** One method a promise; the answers are worked out by hand from the document. */
public final class PromisesTest {
    private static final Class<?> INDEX = Checks.INDEX;
    private static final Class<?> ARGUMENT = Checks.ARGUMENT;
    private static final Class<?> STATE = Checks.STATE;
    /** Just as long as the buffer. */
    private static final String FULL_TEXT = "10=00;1=00;2=00;3=00;4=00;5=00;6=00;7=00;8=00;9=00;9=12;9=34";
    private static final int[] ODD = {Integer.MIN_VALUE, -1, 1000000, Integer.MAX_VALUE};

    private static final Checks C = new Checks();

    public static void main(String[] args) {
        newObject();
        winds();
        vanes();
        vanesVote();
        mills();
        settings();
        quorumAndMajority();
        bringing();
        takingBack();
        passing();
        passingIsGrindingFromTheFirstLot();
        appending();
        clearing();
        errorsByPlace();
        loading();
        keeping();
        goingBack();
        undoing();
        undoKeepsSixStates();
        whatIsUndoable();
        hours();
        looksAtVanes();
        looksAtMills();
        looksAtOwners();
        counts();
        looksAtSettings();
        doneIn();
        ifPassed();
        turnsIn();
        mainVane();
        turnShare();
        digest();
        looksChangeNothing();
        C.end();
    }

    private static void newObject() {
        C.begin("promise 1");
        VaneVotes x = new VaneVotes();
        int[] counts = {0, 0, 0, 6, 10, 0, 0, 0, 0};
        for (int what = 0; what <= 8; what++) {
            C.due("count(" + what + ")", x.count(what), counts[what]);
        }
        for (int mill = 0; mill < 3; mill++) {
            C.due("speed", x.millOf(mill, 0), 2);
            C.due("lots", x.millOf(mill, 1), 0);
        }
        C.due("quorum", x.setting(0), 3);
        C.due("half", x.setting(1), 0);
        C.due("buffer", x.clearBuffer(), 0);
        C.dueThrow("goBack(0)", x, STATE, () -> x.goBack(0));
        C.dueThrow("goBack(1)", x, STATE, () -> x.goBack(1));
        C.dueThrow("undo()", x, STATE, () -> x.undo());
        new VaneVotes().bring(0, 0, 5);
        C.due("another object's sacks", new VaneVotes().count(5), 0);
    }

    private static void winds() {
        C.begin("promise 2");
        VaneVotes x = new VaneVotes();
        C.due("wind(23, 0, 9)", x.wind(23, 0, 9), 73);
        C.due("wind(23, 7, 0)", x.wind(23, 7, 0), 9);
        C.due("side", x.hourOf(23, 0), 7);
        C.due("strength", x.hourOf(23, 1), 0);
        C.due("wind(0, 7, 9)", x.wind(0, 7, 9), 0);
        C.due("wind(0, 0, 0)", x.wind(0, 0, 0), 79);
        C.due("the hour beside", x.wind(22, 1, 1), 62);
        for (int odd : ODD) {
            C.dueThrow("hour", x, INDEX, () -> x.wind(odd, 0, 0));
            C.dueThrow("side", x, ARGUMENT, () -> x.wind(0, odd, 0));
            C.dueThrow("strength", x, ARGUMENT, () -> x.wind(0, 0, odd));
        }
        C.dueThrow("wind(24, 0, 0)", x, INDEX, () -> x.wind(24, 0, 0));
        C.dueThrow("wind(24, 8, 10)", x, INDEX, () -> x.wind(24, 8, 10));
        C.dueThrow("wind(0, 8, 0)", x, ARGUMENT, () -> x.wind(0, 8, 0));
        C.dueThrow("wind(0, 0, 10)", x, ARGUMENT, () -> x.wind(0, 0, 10));
    }

    private static void vanes() {
        C.begin("promise 3");
        VaneVotes x = new VaneVotes();
        int[] most = {7, 4, 9, 1};
        int[] first = {5, 2, 1, 0};
        for (int what = 0; what < 4; what++) {
            int w = what;
            C.due("vane(5, " + what + ", most)", x.vane(5, what, most[what]), first[what]);
            C.due("vaneOf", x.vaneOf(5, what), most[what]);
            C.due("vane(5, " + what + ", 0)", x.vane(5, what, 0), most[what]);
            C.due("vaneOf", x.vaneOf(5, what), 0);
            C.dueThrow("too much of " + what, x, ARGUMENT, () -> x.vane(5, w, most[w] + 1));
            C.dueThrow("too little of " + what, x, ARGUMENT, () -> x.vane(5, w, -1));
        }
        C.due("the vane beside faces", x.vaneOf(4, 0), 4);
        for (int odd : ODD) {
            C.dueThrow("vane", x, INDEX, () -> x.vane(odd, 0, 0));
            C.dueThrow("what", x, ARGUMENT, () -> x.vane(0, odd, 0));
            C.dueThrow("value", x, ARGUMENT, () -> x.vane(0, 0, odd));
        }
        C.dueThrow("vane(6, 0, 0)", x, INDEX, () -> x.vane(6, 0, 0));
        C.dueThrow("vane(6, 4, 8)", x, INDEX, () -> x.vane(6, 4, 8));
        C.dueThrow("vane(0, 4, 0)", x, ARGUMENT, () -> x.vane(0, 4, 0));
    }

    /** The way round to a side is the shorter one, and the strength may be just the least one. */
    private static void vanesVote() {
        C.begin("promise 3, agreeing");
        int[][] steps = {{0, 0, 0}, {0, 1, 1}, {0, 7, 1}, {7, 0, 1}, {1, 6, 3}, {6, 1, 3}, {2, 6, 4}, {6, 2, 4},
            {7, 2, 3}};
        for (int[] step : steps) {
            for (int reach = 0; reach <= 4; reach++) {
                for (int strength = 4; strength <= 6; strength++) {
                    VaneVotes x = new VaneVotes();
                    for (int vane = 1; vane < 6; vane++) {
                        x.vane(vane, 3, 1);
                    }
                    x.vane(0, 0, step[0]);
                    x.vane(0, 1, reach);
                    x.vane(0, 2, 5);
                    x.wind(9, step[1], strength);
                    C.due("votes of " + step[0] + " for " + step[1] + " by " + reach + ", " + strength,
                        x.hourOf(9, 2), reach >= step[2] && strength >= 5 ? 1 : 0);
                }
            }
        }
    }

    private static void mills() {
        C.begin("promise 4");
        VaneVotes x = new VaneVotes();
        C.due("mill(2, 9)", x.mill(2, 9), 2);
        C.due("mill(2, 0)", x.mill(2, 0), 9);
        C.due("mill(2, 3)", x.mill(2, 3), 0);
        C.due("speed", x.millOf(2, 0), 3);
        C.due("the mill beside", x.millOf(1, 0), 2);
        for (int odd : ODD) {
            C.dueThrow("mill", x, INDEX, () -> x.mill(odd, 0));
            C.dueThrow("speed", x, ARGUMENT, () -> x.mill(0, odd));
        }
        C.dueThrow("mill(3, 0)", x, INDEX, () -> x.mill(3, 0));
        C.dueThrow("mill(3, 10)", x, INDEX, () -> x.mill(3, 10));
        C.dueThrow("mill(0, 10)", x, ARGUMENT, () -> x.mill(0, 10));
    }

    private static void settings() {
        C.begin("promise 5");
        VaneVotes x = new VaneVotes();
        C.due("set(0, 6)", x.set(0, 6), 3);
        C.due("set(0, 1)", x.set(0, 1), 6);
        C.due("set(1, 1)", x.set(1, 1), 0);
        C.due("set(1, 0)", x.set(1, 0), 1);
        C.due("setting(0)", x.setting(0), 1);
        for (int odd : ODD) {
            C.dueThrow("setting", x, INDEX, () -> x.set(odd, 1));
            C.dueThrow("quorum", x, ARGUMENT, () -> x.set(0, odd));
            C.dueThrow("half", x, ARGUMENT, () -> x.set(1, odd));
        }
        C.dueThrow("set(2, 0)", x, INDEX, () -> x.set(2, 0));
        C.dueThrow("set(2, 9)", x, INDEX, () -> x.set(2, 9));
        C.dueThrow("set(0, 0)", x, ARGUMENT, () -> x.set(0, 0));
        C.dueThrow("set(0, 7)", x, ARGUMENT, () -> x.set(0, 7));
        C.dueThrow("set(1, 2)", x, ARGUMENT, () -> x.set(1, 2));
    }

    private static void quorumAndMajority() {
        C.begin("promise 5, committee");
        // side 0 and a strength: of the six vanes 0, 1 and 2 agree
        VaneVotes x = new VaneVotes();
        C.due("3 of 6, more than half", x.hourOf(8, 3), 2);
        x.set(1, 1);
        C.due("3 of 6, half", x.hourOf(8, 3), 0);
        x.vane(2, 3, 1);
        C.due("2 of 5, half", x.hourOf(8, 3), 2);
        x.vane(2, 3, 0);
        x.vane(5, 3, 1);
        x.set(1, 0);
        C.due("3 of 5, more than half", x.hourOf(8, 3), 0);
        x.set(0, 5);
        C.due("5 at a quorum of 5", x.hourOf(8, 3), 0);
        x.set(0, 6);
        C.due("5 at a quorum of 6", x.hourOf(8, 3), 1);
        C.due("too few vanes comes before too few votes", x.hourOf(0, 3), 1);
        x.set(0, 1);
        for (int vane = 0; vane < 6; vane++) {
            x.vane(vane, 3, 1);
        }
        x.set(1, 1);
        C.due("no vanes", x.hourOf(8, 3), 1);
        C.due("agreeing", x.count(4), 0);
        x.vane(0, 3, 0);
        C.due("1 of 1", x.hourOf(8, 3), 0);
        C.due("0 of 1", x.hourOf(0, 3), 2);
    }

    private static void bringing() {
        C.begin("promise 6");
        VaneVotes x = new VaneVotes();
        C.due("bring(4, 2, 99)", x.bring(4, 2, 99), 99);
        C.due("bring(4, 2, 1)", x.bring(4, 2, 1), 100);
        C.due("bring(0, 1, 7)", x.bring(0, 1, 7), 7);
        C.due("lots of one owner stay two", x.millOf(2, 1), 2);
        for (int lots = 3; lots <= 8; lots++) {
            C.due("lot " + lots, x.bring(1, 2, 2), 100 + 2 * (lots - 2));
        }
        C.due("the ninth lot", x.bring(3, 2, 5), VaneVotes.NONE);
        C.due("refused", x.count(7), 1);
        C.due("not brought", x.ownerOf(3, 2), 0);
        C.due("lots", x.millOf(2, 1), 8);
        C.due("sacks", x.millOf(2, 2), 112);
        C.due("first owner", x.millOf(2, 4), 4);
        C.due("another mill has place", x.bring(3, 0, 5), 5);
        for (int odd : ODD) {
            C.dueThrow("owner", x, INDEX, () -> x.bring(odd, 0, 1));
            C.dueThrow("mill", x, INDEX, () -> x.bring(0, odd, 1));
            C.dueThrow("sacks", x, ARGUMENT, () -> x.bring(0, 0, odd));
        }
        C.dueThrow("bring(5, 0, 1)", x, INDEX, () -> x.bring(5, 0, 1));
        C.dueThrow("bring(0, 3, 1)", x, INDEX, () -> x.bring(0, 3, 1));
        C.dueThrow("bring(0, 3, 0)", x, INDEX, () -> x.bring(0, 3, 0));
        C.dueThrow("bring(0, 0, 0)", x, ARGUMENT, () -> x.bring(0, 0, 0));
        C.dueThrow("bring(0, 0, 100)", x, ARGUMENT, () -> x.bring(0, 0, 100));
        C.dueThrow("bring(0, 2, 100) at a full mill", x, ARGUMENT, () -> x.bring(0, 2, 100));
    }

    private static void takingBack() {
        C.begin("promise 7");
        VaneVotes x = Villages.steady(4);
        x.bring(1, 0, 5);
        x.bring(2, 0, 9);
        C.due("the last lot", x.takeBack(0), 9);
        C.due("taken back of 2", x.ownerOf(2, 3), 9);
        C.due("brought by 2", x.ownerOf(2, 2), 9);
        C.due("waits", x.millOf(0, 2), 5);
        x.pass(1);
        C.due("what is left of the lot", x.takeBack(0), 3);
        C.due("taken back of 1", x.ownerOf(1, 3), 3);
        C.due("flour of 1", x.ownerOf(1, 1), 2);
        C.due("no lot", x.takeBack(0), VaneVotes.NONE);
        C.due("another mill without lots", x.takeBack(2), VaneVotes.NONE);
        C.due("refused", x.count(7), 2);
        for (int odd : ODD) {
            C.dueThrow("mill", x, INDEX, () -> x.takeBack(odd));
        }
        C.dueThrow("takeBack(3)", x, INDEX, () -> x.takeBack(3));
    }

    private static void passing() {
        C.begin("promise 8");
        VaneVotes x = new VaneVotes();
        C.due("an hour without sacks", x.pass(1), 0);
        C.due("clock", x.count(0), 1);
        C.due("turned in hour 0", x.count(2), 0);
        x.pass(1);
        C.due("turned in hour 1 without sacks", x.count(2), 1);
        x.pass(22);
        C.due("clock after a day", x.count(0), 0);
        C.due("gone", x.count(1), 24);
        C.due("turned in a day", x.count(2), 10);
        x.pass(99);
        C.due("clock", x.count(0), 3);
        C.due("gone", x.count(1), 123);
        C.due("turned", x.count(2), 10 + 40 + 2);
        for (int odd : ODD) {
            C.dueThrow("hours", x, ARGUMENT, () -> x.pass(odd));
        }
        C.dueThrow("pass(0)", x, ARGUMENT, () -> x.pass(0));
        C.dueThrow("pass(100)", x, ARGUMENT, () -> x.pass(100));
    }

    private static void passingIsGrindingFromTheFirstLot() {
        C.begin("promise 8, grinding");
        VaneVotes x = Villages.steady(9);
        x.mill(0, 3);
        x.mill(1, 1);
        x.mill(2, 0);
        x.bring(0, 0, 2);
        x.bring(1, 0, 3);
        x.bring(0, 0, 1);
        x.bring(3, 0, 10);
        x.bring(4, 1, 1);
        x.bring(2, 2, 8);
        C.due("6 of mill 0 and all of mill 1", x.pass(1), 7);
        int[] flour = {3, 3, 0, 0, 1};
        for (int owner = 0; owner < 5; owner++) {
            C.due("flour of " + owner, x.ownerOf(owner, 1), flour[owner]);
        }
        C.due("lots left", x.millOf(0, 1), 1);
        C.due("first owner", x.millOf(0, 4), 3);
        C.due("lots of mill 1", x.millOf(1, 1), 0);
        C.due("lots of mill 2", x.millOf(2, 1), 1);
        C.due("two hours", x.pass(2), 10);
        C.due("ground by mill 0", x.millOf(0, 3), 16);
        C.due("ground by mill 1", x.millOf(1, 3), 1);
        C.due("ground by mill 2", x.millOf(2, 3), 0);
        for (int lot = 0; lot < 8; lot++) {
            x.bring(lot % 5, 0, 1);
        }
        C.due("a full row", x.pass(1), 6);
        C.due("left", x.millOf(0, 1), 2);
        C.due("first of those left", x.millOf(0, 4), 1);
        VaneVotes still = new VaneVotes();
        still.bring(0, 0, 9);
        still.pass(1);
        still.wind(1, 6, 9);
        C.due("the committee does not agree", still.pass(1), 0);
    }

    private static void appending() {
        C.begin("promise 9");
        VaneVotes x = new VaneVotes();
        C.due("append(33)", x.append(33), 1);
        C.due("append(126)", x.append(126), 2);
        for (int odd : ODD) {
            C.dueThrow("code", x, ARGUMENT, () -> x.append(odd));
        }
        C.dueThrow("append(32)", x, ARGUMENT, () -> x.append(32));
        C.dueThrow("append(127)", x, ARGUMENT, () -> x.append(127));
        for (int length = 3; length <= 60; length++) {
            C.due("append", x.append('0'), length);
        }
        C.dueThrow("append to a full buffer", x, STATE, () -> x.append('0'));
        C.dueThrow("append(32) to a full buffer", x, ARGUMENT, () -> x.append(32));
        C.due("no state is saved", x.count(8), 0);
    }

    private static void clearing() {
        C.begin("promise 10");
        VaneVotes x = new VaneVotes();
        C.due("an empty buffer", x.clearBuffer(), 0);
        Villages.type(x, "0=00");
        C.due("four characters", x.clearBuffer(), 4);
        C.due("cleared", x.clearBuffer(), 0);
        C.due("append", x.append('0'), 1);
        C.due("no state is saved", x.count(8), 0);
    }

    private static void errorsByPlace() {
        C.begin("promise 11");
        String[] good = {
            "", "0", "1", "2", "9", "10", "19", "20", "23", "0=", "23=", "0=0", "0=7", "0=70", "0=09;", "0=09;2",
            "0=09;23=7", "1=00;1=00;1=00", "10=00;10=00;10=00;10=00;10=00;10=00;10=00;10=00;10=00;10=00",
            FULL_TEXT,
        };
        for (String text : good) {
            VaneVotes x = new VaneVotes();
            Villages.type(x, text);
            C.due("firstError of " + text, x.firstError(), text.length());
        }
        String[][] bad = {
            {"", "=12"}, {"", ";"}, {"", "x"}, {"", "/"}, {"", ":"}, {"", "-1"}, {"0", "0=00"}, {"0", "1=00"},
            {"0", "9"}, {"1", ";"}, {"1", ":"}, {"1", "/"}, {"2", "4=00"}, {"2", "9"}, {"2", "/"}, {"3", "0=00"},
            {"9", "1"}, {"10", "0"}, {"23", "0"}, {"0=", "8"}, {"0=", "9"}, {"0=", "/"}, {"0=", "="}, {"0=", ";"},
            {"0=7", ":"}, {"0=7", ";"}, {"0=7", "/"}, {"0=79", "0"}, {"0=79", "="}, {"0=79", ","},
            {"0=79;", ";"}, {"0=79;0", "1"}, {"0=79;12=7", "x9;;"}, {"0=79;2", "5"},
        };
        for (String[] text : bad) {
            VaneVotes x = new VaneVotes();
            Villages.type(x, text[0] + text[1]);
            C.due("firstError of " + text[0] + text[1], x.firstError(), text[0].length());
        }
    }

    private static void loading() {
        C.begin("promise 12");
        VaneVotes x = new VaneVotes();
        Villages.type(x, "0=35;23=09;0=46;10=71");
        C.due("agreeing hours", x.load(), 11);
        C.due("the last one for an hour counts", x.hourOf(0, 0) * 10 + x.hourOf(0, 1), 46);
        C.due("hour 23", x.hourOf(23, 0) * 10 + x.hourOf(23, 1), 9);
        C.due("hour 10", x.hourOf(10, 0) * 10 + x.hourOf(10, 1), 71);
        C.due("hour 1 stays", x.hourOf(1, 0) * 10 + x.hourOf(1, 1), 11);
        C.due("the buffer is cleared", x.clearBuffer(), 0);
        String[] bad = {"", "0", "0=", "0=3", "0=34;", "0=34;1", "00=34", "24=34", "0=84", "0=34;;1=34", "x", "0=340"};
        for (String text : bad) {
            Villages.type(x, text);
            C.dueThrow("load of " + text, x, ARGUMENT, () -> x.load());
            C.due("the buffer stays", x.clearBuffer(), text.length());
        }
        for (int hour = 0; hour < 24; hour++) {
            Villages.type(x, hour + "=" + hour % 7 + hour % 9);
            x.load();
            C.due("wind of " + hour, x.hourOf(hour, 0) * 10 + x.hourOf(hour, 1), 10 * (hour % 7) + hour % 9);
        }
        Villages.type(x, "1=11;1=22;1=33;1=44;1=55;1=66;1=77;1=08;1=19;1=20;1=31;1=42");
        x.load();
        C.due("a long text", x.hourOf(1, 0) * 10 + x.hourOf(1, 1), 42);
        Villages.type(x, FULL_TEXT);
        x.load();
        C.due("a full buffer", x.hourOf(9, 0) * 10 + x.hourOf(9, 1), 34);
        x.undo();
        C.due("load is undoable", x.undo(), 4);
        C.due("the wind before", x.hourOf(1, 0) * 10 + x.hourOf(1, 1), 11);
        C.due("undo leaves the buffer alone", x.clearBuffer(), 0);
    }

    private static void keeping() {
        C.begin("promise 13");
        VaneVotes x = new VaneVotes();
        x.pass(5);
        C.due("keep(0)", x.keep(0), 5);
        x.pass(3);
        C.due("keep(1)", x.keep(1), 8);
        x.pass(99);
        C.due("keep(1) in place of the one before", x.keep(1), 11);
        C.due("no state is saved by keep", x.count(8), 3);
        C.due("goBack(0)", x.goBack(0), 5);
        C.due("goBack(1)", x.goBack(1), 11);
        for (int odd : ODD) {
            C.dueThrow("slot", x, ARGUMENT, () -> x.keep(odd));
        }
        C.dueThrow("keep(2)", x, ARGUMENT, () -> x.keep(2));
    }

    private static void goingBack() {
        C.begin("promise 14");
        VaneVotes x = Villages.steady(4);
        x.takeBack(0);
        x.bring(1, 1, 20);
        x.bring(2, 1, 20);
        x.takeBack(1);
        x.pass(3);
        x.keep(1);
        C.dueThrow("the other slot", x, STATE, () -> x.goBack(0));
        long then = Villages.digestWithout(x);
        x.wind(3, 1, 1);
        x.vane(1, 3, 1);
        x.vane(2, 1, 0);
        x.mill(2, 7);
        x.set(1, 1);
        x.set(0, 1);
        x.bring(4, 1, 9);
        x.takeBack(2);
        x.takeBack(1);
        x.pass(30);
        Villages.type(x, "ab");
        C.due("goBack(1)", x.goBack(1), 3);
        C.due("saved states stay", x.count(8), 6);
        C.due("the buffer stays", x.clearBuffer(), 2);
        C.due("all is as it was", Villages.digestWithout(x), then);
        x.pass(1);
        C.due("the snapshot stays", x.goBack(1), 3);
        C.due("all is as it was", Villages.digestWithout(x), then);
        x.undo();
        C.due("undo of goBack", x.count(0), 4);
        x.undo();
        x.undo();
        C.due("undo behind two goBacks", x.count(0), 9);
        C.due("gone", x.count(1), 33);
        C.dueThrow("goBack(2)", x, ARGUMENT, () -> x.goBack(2));
        for (int odd : ODD) {
            C.dueThrow("slot", x, ARGUMENT, () -> x.goBack(odd));
        }
        VaneVotes y = new VaneVotes();
        y.pass(2);
        y.keep(0);
        y.undo();
        C.due("undo does not empty a slot", y.goBack(0), 2);
    }

    private static void undoing() {
        C.begin("promise 15");
        VaneVotes x = Villages.steady(4);
        x.bring(1, 0, 9);
        x.takeBack(1);
        long before = Villages.digestWithout(x);
        Villages.type(x, "ab");
        x.pass(2);
        C.due("states left", x.undo(), 5);
        C.due("all is as it was", Villages.digestWithout(x), before);
        C.due("the buffer stays", x.clearBuffer(), 2);
        C.due("refused", x.count(7), 1);
        C.due("undo of what was refused", x.undo(), 4);
        C.due("refused", x.count(7), 0);
        C.due("undo of bring", x.undo(), 3);
        C.due("sacks", x.count(5), 0);
        C.due("brought", x.ownerOf(1, 2), 0);
    }

    private static void undoKeepsSixStates() {
        C.begin("promise 15, six states");
        VaneVotes x = new VaneVotes();
        for (int speed = 3; speed <= 9; speed++) {
            x.mill(0, speed);
            C.due("saved states", x.count(8), Math.min(6, speed - 2));
        }
        for (int left = 5; left >= 0; left--) {
            C.due("undo", x.undo(), left);
            C.due("speed", x.millOf(0, 0), left + 3);
        }
        C.dueThrow("undo", x, STATE, () -> x.undo());
        C.due("the oldest state is gone", x.millOf(0, 0), 3);
        for (int round = 0; round < 5; round++) {
            x.mill(1, round);
            x.mill(1, round + 4);
            x.undo();
            C.due("speed", x.millOf(1, 0), round);
        }
        C.due("saved states", x.count(8), 5);
    }

    private static void whatIsUndoable() {
        C.begin("promises 2 to 15, undoable");
        VaneVotes x = new VaneVotes();
        x.keep(0);
        Villages.type(x, "0=00");
        Checks.Call[] undoable = {
            () -> x.wind(0, 0, 0), () -> x.vane(0, 0, 0), () -> x.mill(0, 2), () -> x.set(0, 3),
            () -> x.bring(0, 0, 1), () -> x.takeBack(1), () -> x.pass(1), () -> x.load(), () -> x.goBack(0),
        };
        for (int i = 0; i < undoable.length; i++) {
            undoable[i].run();
            C.due("saved states after call " + i, x.count(8), 1);
            x.undo();
        }
        for (int lot = 0; lot < 8; lot++) {
            x.bring(0, 0, 1);
        }
        C.due("refused at a full mill", x.bring(0, 0, 1), VaneVotes.NONE);
        C.due("refused", x.count(7), 1);
        x.undo();
        C.due("undo of what was refused", x.count(7), 0);
        C.due("lots", x.millOf(0, 1), 8);
        int saved = x.count(8);
        x.keep(1);
        x.append('a');
        x.firstError();
        x.clearBuffer();
        C.due("keep and the buffer save no state", x.count(8), saved);
    }

    private static void hours() {
        C.begin("promise 16");
        VaneVotes x = new VaneVotes();
        x.mill(0, 1);
        x.mill(1, 9);
        // sides of votes: 0:3 1:4 2:5 3:5 4:4 5:3 6:3 7:3
        int[] votes = {3, 4, 5, 5, 4, 3, 3, 3};
        for (int hour = 0; hour < 24; hour++) {
            int agree = hour % 10 == 0 ? 0 : votes[hour % 8];
            int strength = hour % 10;
            C.due("side", x.hourOf(hour, 0), hour % 8);
            C.due("strength", x.hourOf(hour, 1), strength);
            C.due("votes in " + hour, x.hourOf(hour, 2), agree);
            C.due("why in " + hour, x.hourOf(hour, 3), agree > 3 ? 0 : 2);
            int sacks = strength / 4 + 9 * strength / 4 + 2 * strength / 4;
            C.due("sacks in " + hour, x.hourOf(hour, 4), agree > 3 ? sacks : 0);
        }
        x.vane(3, 3, 1);
        C.due("a stuck vane has no vote", x.hourOf(3, 2), 4);
        for (int odd : ODD) {
            C.dueThrow("hour", x, INDEX, () -> x.hourOf(odd, 0));
            C.dueThrow("what", x, ARGUMENT, () -> x.hourOf(0, odd));
        }
        C.dueThrow("hourOf(24, 0)", x, INDEX, () -> x.hourOf(24, 0));
        C.dueThrow("hourOf(24, 5)", x, INDEX, () -> x.hourOf(24, 5));
        C.dueThrow("hourOf(0, 5)", x, ARGUMENT, () -> x.hourOf(0, 5));
    }

    private static void looksAtVanes() {
        C.begin("promise 17");
        VaneVotes x = new VaneVotes();
        int[] agree = {13, 13, 12, 13, 13, 14};
        int[] matters = {3, 6, 9, 8, 5, 2};
        for (int vane = 0; vane < 6; vane++) {
            C.due("side", x.vaneOf(vane, 0), vane);
            C.due("reach", x.vaneOf(vane, 1), 2);
            C.due("least strength", x.vaneOf(vane, 2), 1);
            C.due("stuck", x.vaneOf(vane, 3), 0);
            C.due("agrees, " + vane, x.vaneOf(vane, 4), agree[vane]);
            C.due("matters, " + vane, x.vaneOf(vane, 5), matters[vane]);
        }
        x.vane(2, 3, 1);
        C.due("stuck", x.vaneOf(2, 3), 1);
        C.due("agrees although stuck", x.vaneOf(2, 4), 12);
        C.due("matters the same the other way", x.vaneOf(2, 5), 9);
        x.vane(2, 3, 0);
        x.set(0, 6);
        C.due("at the quorum all hours matter", x.vaneOf(5, 5), 10);
        x.vane(5, 3, 1);
        C.due("and from below", x.vaneOf(5, 5), 10);
        C.due("too few either way", x.vaneOf(4, 5), 0);
        for (int odd : ODD) {
            C.dueThrow("vane", x, INDEX, () -> x.vaneOf(odd, 0));
            C.dueThrow("what", x, ARGUMENT, () -> x.vaneOf(0, odd));
        }
        C.dueThrow("vaneOf(6, 0)", x, INDEX, () -> x.vaneOf(6, 0));
        C.dueThrow("vaneOf(6, 6)", x, INDEX, () -> x.vaneOf(6, 6));
        C.dueThrow("vaneOf(0, 6)", x, ARGUMENT, () -> x.vaneOf(0, 6));
    }

    private static void looksAtMills() {
        C.begin("promise 18");
        VaneVotes x = new VaneVotes();
        C.due("first owner without lots", x.millOf(0, 4), VaneVotes.NONE);
        C.due("a day", x.millOf(0, 5), 20);
        x.mill(0, 9);
        // strengths 1 2 3 4 9 1 2 7 8 9
        C.due("a day of speed 9", x.millOf(0, 5), 2 + 4 + 6 + 9 + 20 + 2 + 4 + 15 + 18 + 20);
        x.mill(0, 0);
        C.due("a day of speed 0", x.millOf(0, 5), 0);
        x.bring(3, 1, 15);
        x.bring(2, 1, 10);
        C.due("speed", x.millOf(1, 0), 2);
        C.due("lots", x.millOf(1, 1), 2);
        C.due("sacks", x.millOf(1, 2), 25);
        C.due("first owner", x.millOf(1, 4), 3);
        x.pass(24);
        C.due("lots", x.millOf(1, 1), 1);
        C.due("sacks", x.millOf(1, 2), 5);
        C.due("ground", x.millOf(1, 3), 20);
        C.due("first owner", x.millOf(1, 4), 2);
        x.set(0, 6);
        x.vane(0, 3, 1);
        C.due("a day without a committee", x.millOf(1, 5), 0);
        for (int odd : ODD) {
            C.dueThrow("mill", x, INDEX, () -> x.millOf(odd, 0));
            C.dueThrow("what", x, ARGUMENT, () -> x.millOf(0, odd));
        }
        C.dueThrow("millOf(3, 0)", x, INDEX, () -> x.millOf(3, 0));
        C.dueThrow("millOf(3, 6)", x, INDEX, () -> x.millOf(3, 6));
        C.dueThrow("millOf(0, 6)", x, ARGUMENT, () -> x.millOf(0, 6));
    }

    private static void looksAtOwners() {
        C.begin("promise 19");
        VaneVotes x = Villages.steady(2);
        x.bring(0, 0, 5);
        x.bring(4, 0, 6);
        x.bring(0, 1, 7);
        x.bring(0, 2, 8);
        x.bring(0, 2, 9);
        x.takeBack(2);
        C.due("waits", x.ownerOf(0, 0), 20);
        x.pass(2);
        C.due("waits", x.ownerOf(0, 0), 14);
        C.due("flour", x.ownerOf(0, 1), 6);
        C.due("brought", x.ownerOf(0, 2), 29);
        C.due("taken back", x.ownerOf(0, 3), 9);
        C.due("waits of 4", x.ownerOf(4, 0), 6);
        C.due("brought by 4", x.ownerOf(4, 2), 6);
        C.due("taken back of 4", x.ownerOf(4, 3), 0);
        for (int odd : ODD) {
            C.dueThrow("owner", x, INDEX, () -> x.ownerOf(odd, 0));
            C.dueThrow("what", x, ARGUMENT, () -> x.ownerOf(0, odd));
        }
        C.dueThrow("ownerOf(5, 0)", x, INDEX, () -> x.ownerOf(5, 0));
        C.dueThrow("ownerOf(5, 4)", x, INDEX, () -> x.ownerOf(5, 4));
        C.dueThrow("ownerOf(0, 4)", x, ARGUMENT, () -> x.ownerOf(0, 4));
    }

    private static void counts() {
        C.begin("promise 20");
        VaneVotes x = new VaneVotes();
        x.bring(1, 0, 99);
        x.bring(2, 1, 50);
        x.takeBack(2);
        x.vane(0, 3, 1);
        x.pass(26);
        // of the five vanes left three agree with the sides 1 to 5, in 13 hours with the strengths
        // 1 2 3 4 5 9 1 2 3 7 8 9 1; by these each mill grinds 0 1 1 2 2 4 0 1 1 3 4 4 0
        int[] counts = {2, 26, 13 + 1, 5, 13, 149 - 2 * 23, 2 * 23, 1, 5};
        for (int what = 0; what <= 8; what++) {
            C.due("count(" + what + ")", x.count(what), counts[what]);
        }
        for (int odd : ODD) {
            C.dueThrow("what", x, ARGUMENT, () -> x.count(odd));
        }
        C.dueThrow("count(9)", x, ARGUMENT, () -> x.count(9));
    }

    private static void looksAtSettings() {
        C.begin("promise 21");
        VaneVotes x = new VaneVotes();
        x.set(0, 4);
        C.due("setting(0)", x.setting(0), 4);
        C.due("setting(1)", x.setting(1), 0);
        x.set(1, 1);
        C.due("setting(1)", x.setting(1), 1);
        for (int odd : ODD) {
            C.dueThrow("setting", x, INDEX, () -> x.setting(odd));
        }
        C.dueThrow("setting(2)", x, INDEX, () -> x.setting(2));
    }

    private static void doneIn(VaneVotes x, int mill, int want) {
        C.due("doneIn(" + mill + ", 0)", x.doneIn(mill, 0), want);
        C.due("doneIn(" + mill + ", 1)", x.doneIn(mill, 1), want);
    }

    private static void doneIn() {
        C.begin("promise 22");
        // ground up to an hour of the first day: 2:1 3:2 4:4 9:8 12:9 17:12 18:16 19:20
        int[][] due = {{1, 3}, {2, 4}, {3, 5}, {4, 5}, {5, 10}, {19, 20}, {20, 20}, {21, 27}, {35, 43}, {40, 44},
            {41, 51}};
        for (int[] one : due) {
            VaneVotes x = new VaneVotes();
            x.bring(0, 2, one[0]);
            doneIn(x, 2, one[1]);
            doneIn(x, 1, 0);
            x.pass(one[1] - 1);
            C.due("not yet", x.millOf(2, 2) > 0 ? 1 : 0, 1);
            doneIn(x, 2, 1);
            x.pass(1);
            C.due("now", x.millOf(2, 2), 0);
            doneIn(x, 2, 0);
        }
        VaneVotes x = new VaneVotes();
        for (int lot = 0; lot < 8; lot++) {
            x.bring(0, 0, 99);
        }
        x.pass(20);
        doneIn(x, 0, 4 + 24 * 38 + 17 + 1);
        x.mill(0, 0);
        doneIn(x, 0, VaneVotes.NONE);
        x.mill(0, 2);
        x.set(0, 6);
        x.vane(0, 3, 1);
        doneIn(x, 0, VaneVotes.NONE);
        doneIn(x, 1, 0);
        VaneVotes slow = new VaneVotes();
        for (int lot = 0; lot < 8; lot++) {
            slow.bring(0, 0, 99);
        }
        slow.mill(0, 1);
        for (int hour = 1; hour < 24; hour++) {
            slow.wind(hour, 0, 0);
        }
        slow.wind(0, 3, 4);
        doneIn(slow, 0, 791 * 24 + 1);
        slow.pass(1);
        doneIn(slow, 0, 791 * 24);
        for (int odd : ODD) {
            C.dueThrow("mill", x, INDEX, () -> x.doneIn(odd, 0));
            C.dueThrow("what", x, ARGUMENT, () -> x.doneIn(0, odd));
        }
        C.dueThrow("doneIn(3, 0)", x, INDEX, () -> x.doneIn(3, 0));
        C.dueThrow("doneIn(3, 2)", x, INDEX, () -> x.doneIn(3, 2));
        C.dueThrow("doneIn(0, 2)", x, ARGUMENT, () -> x.doneIn(0, 2));
        C.dueThrow("doneIn(1, 2) without sacks", x, ARGUMENT, () -> x.doneIn(1, 2));
    }

    private static void ifPassed() {
        C.begin("promise 23");
        VaneVotes x = new VaneVotes();
        x.bring(1, 0, 5);
        x.bring(2, 0, 99);
        x.bring(1, 1, 3);
        x.bring(1, 0, 9);
        x.pass(2);
        // by the clock of 2 a mill has ground 1 at hour 2, 2 at 3, 4 at 4, 8 at 9, 20 in a day
        C.due("an hour", x.ifPassed(1, 1), 2);
        C.due("two hours", x.ifPassed(1, 2), 4);
        C.due("nine hours", x.ifPassed(1, 9), 8);
        C.due("a day", x.ifPassed(1, 24), 8);
        C.due("of 2 in nine hours", x.ifPassed(2, 9), 3);
        C.due("of 2 in a day", x.ifPassed(2, 24), 15);
        C.due("of 2 in 99 hours", x.ifPassed(2, 99), 4 * 20 + 4 - 5);
        C.due("of 3", x.ifPassed(3, 99), 0);
        for (int owner = 0; owner < 3; owner++) {
            for (int hours = 1; hours <= 99; hours += 7) {
                int had = x.ownerOf(owner, 1);
                int told = x.ifPassed(owner, hours);
                x.pass(hours);
                C.due("flour of " + owner + " in " + hours, x.ownerOf(owner, 1) - had, told);
                x.undo();
            }
        }
        for (int odd : ODD) {
            C.dueThrow("owner", x, INDEX, () -> x.ifPassed(odd, 1));
            C.dueThrow("hours", x, ARGUMENT, () -> x.ifPassed(0, odd));
        }
        C.dueThrow("ifPassed(5, 1)", x, INDEX, () -> x.ifPassed(5, 1));
        C.dueThrow("ifPassed(5, 0)", x, INDEX, () -> x.ifPassed(5, 0));
        C.dueThrow("ifPassed(0, 0)", x, ARGUMENT, () -> x.ifPassed(0, 0));
        C.dueThrow("ifPassed(0, 100)", x, ARGUMENT, () -> x.ifPassed(0, 100));
    }

    private static void turnsIn() {
        C.begin("promise 24");
        VaneVotes x = new VaneVotes();
        // hours 1 2 3 4 9 11 12 17 18 19
        int[] due = {1, 0, 0, 0, 0, 4, 3, 2, 1, 0, 1, 0, 0, 4, 3, 2, 1, 0, 0, 0, 5, 4, 3, 2};
        for (int hour = 0; hour < 24; hour++) {
            C.due("turnsIn at " + hour, x.turnsIn(), due[hour]);
            x.pass(1);
        }
        x.set(0, 6);
        x.vane(0, 3, 1);
        C.due("never", x.turnsIn(), VaneVotes.NONE);
        VaneVotes y = new VaneVotes();
        Villages.type(y, "1=00;2=00;3=00;4=00;9=00;11=00;12=00;17=00;18=00;19=00");
        C.due("load", y.load(), 0);
        C.due("no hour", y.turnsIn(), VaneVotes.NONE);
        y.wind(5, 3, 1);
        y.pass(6);
        C.due("the hour before comes last", y.turnsIn(), 23);
    }

    private static void mainVane() {
        C.begin("promise 25");
        VaneVotes x = new VaneVotes();
        C.due("at first", x.mainVane(), 2);
        x.set(0, 6);
        C.due("the lowest of the same", x.mainVane(), 0);
        x.vane(4, 3, 1);
        C.due("the one that is missing", x.mainVane(), 4);
        x.vane(3, 3, 1);
        C.due("none matters", x.mainVane(), 0);
        VaneVotes y = new VaneVotes();
        for (int vane = 0; vane < 5; vane++) {
            y.vane(vane, 3, 1);
        }
        y.set(0, 1);
        // vane 5 alone decides: without it there is no committee
        C.due("the last one", y.mainVane(), 5);
    }

    private static void turnShare() {
        C.begin("promise 26");
        C.dueDouble("at first", new VaneVotes().turnShare(), 10 / 24.0);
        for (int turning = 0; turning <= 24; turning++) {
            VaneVotes x = new VaneVotes();
            for (int hour = 0; hour < 24; hour++) {
                x.wind(hour, 3, hour < turning ? 1 : 0);
            }
            C.dueDouble("hours " + turning, x.turnShare(), turning / 24.0);
            C.due("digest with hours " + turning, x.digest(), Villages.digestOf(x, 0, 0, ""));
        }
    }

    /** Objects are made anew for each hash, as an object has but 512 calls. */
    private static VaneVotes busy() {
        VaneVotes x = new VaneVotes();
        x.bring(3, 1, 40);
        x.bring(4, 1, 40);
        x.bring(4, 2, 1);
        x.pass(30);
        x.takeBack(1);
        x.takeBack(0);
        x.set(1, 1);
        return x;
    }

    private static void digest() {
        C.begin("promise 27");
        VaneVotes first = new VaneVotes();
        C.due("at first", first.digest(), Villages.digestOf(first, 0, 0, ""));
        VaneVotes sacks = busy();
        C.due("with sacks", sacks.digest(), Villages.digestOf(sacks, 0, 0, ""));
        VaneVotes slot = busy();
        slot.keep(1);
        C.due("with a slot", slot.digest(), Villages.digestOf(slot, 0, 1, ""));
        VaneVotes buffer = busy();
        buffer.keep(0);
        Villages.type(buffer, "0=7~!");
        C.due("with a buffer", buffer.digest(), Villages.digestOf(buffer, 1, 0, "0=7~!"));
        VaneVotes never = new VaneVotes();
        never.set(0, 6);
        never.vane(3, 3, 1);
        never.bring(0, 0, 3);
        C.due("without a committee", never.digest(), Villages.digestOf(never, 0, 0, ""));
    }

    private static void looksChangeNothing() {
        C.begin("promises 16 to 27, no change");
        VaneVotes x = new VaneVotes();
        x.bring(3, 1, 40);
        x.pass(9);
        x.takeBack(0);
        long before = x.digest();
        x.hourOf(3, 4);
        x.vaneOf(3, 5);
        x.vaneOf(5, 4);
        x.millOf(1, 5);
        x.ownerOf(3, 0);
        x.count(4);
        x.setting(0);
        x.doneIn(1, 0);
        x.doneIn(1, 1);
        x.ifPassed(3, 99);
        x.turnsIn();
        x.mainVane();
        x.turnShare();
        x.firstError();
        C.due("digest", x.digest(), before);
        C.due("saved states", x.count(8), 3);
    }
}
