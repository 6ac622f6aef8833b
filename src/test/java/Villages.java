/** Villages that several tests begin with, and what there is to be seen of one. */
final class Villages {
    private Villages() {
    }

    static void type(VaneVotes x, String text) {
        x.clearBuffer();
        for (int i = 0; i < text.length(); i++) {
            x.append(text.charAt(i));
        }
    }

    static VaneVotes typed(String text) {
        VaneVotes x = new VaneVotes();
        type(x, text);
        return x;
    }

    /** A village in which every hour has the wind, and all vanes agree with it. */
    static VaneVotes steady(int strength) {
        VaneVotes x = new VaneVotes();
        for (int hour = 0; hour < 24; hour++) {
            x.wind(hour, 3, strength);
        }
        for (int vane = 0; vane < 6; vane++) {
            x.vane(vane, 0, 3);
            x.vane(vane, 2, 0);
        }
        return x;
    }

    /** The mills turn in these hours alone, and so with a strength of 4, by which a mill grinds its speed. */
    static VaneVotes turningIn(int... hours) {
        VaneVotes x = steady(4);
        for (int hour = 0; hour < 24; hour++) {
            x.wind(hour, 7, 4);
        }
        for (int hour : hours) {
            x.wind(hour, 3, 4);
        }
        return x;
    }

    /** In hour 9 so many vanes are in the committee, and so many of these agree; those that are stuck would agree. */
    static VaneVotes voting(int size, int agreeing) {
        VaneVotes x = new VaneVotes();
        x.wind(9, 3, 5);
        for (int vane = 0; vane < 6; vane++) {
            x.vane(vane, 3, vane < size ? 0 : 1);
            x.vane(vane, 1, 0);
            x.vane(vane, 0, vane < agreeing || vane >= size ? 3 : 7);
        }
        return x;
    }

    /** A mill with so many lots of one sack, of the owners 0, 1, 2 and so on. */
    static VaneVotes lots(int mill, int many) {
        VaneVotes x = new VaneVotes();
        for (int lot = 0; lot < many; lot++) {
            x.bring(lot % 5, mill, 1);
        }
        return x;
    }

    /** Both slots are taken, six states are saved, mill 0 is full, mill 2 empty, and the buffer holds winds. */
    static VaneVotes rich() {
        VaneVotes x = new VaneVotes();
        x.vane(4, 1, 3);
        x.bring(3, 0, 40);
        x.keep(0);
        for (int lot = 0; lot < 7; lot++) {
            x.bring(lot % 5, 0, 10 + lot);
        }
        x.bring(2, 1, 30);
        x.pass(27);
        x.keep(1);
        x.bring(1, 1, 7);
        x.bring(4, 0, 9);
        x.takeBack(2);
        x.wind(3, 2, 8);
        x.vane(5, 3, 1);
        x.mill(1, 5);
        type(x, "23=70;3=19");
        return x;
    }

    /** The digest, then those on the way back through the saved states, then those of the slots. */
    static String wayBack(VaneVotes x) {
        StringBuilder seen = new StringBuilder();
        seen.append(x.digest());
        for (int left = x.count(8); left > 0; left--) {
            seen.append(' ').append(x.undo()).append(' ').append(x.digest());
        }
        for (int slot = 0; slot < 2; slot++) {
            try {
                seen.append(' ').append(x.goBack(slot)).append(' ').append(x.digest());
            } catch (IllegalStateException e) {
                seen.append(" empty");
            }
        }
        return seen.toString();
    }

    /** The lots of each mill, from the last one on, told by taking them back. */
    static String rows(VaneVotes x) {
        StringBuilder seen = new StringBuilder();
        for (int mill = 0; mill < 3; mill++) {
            for (int lots = x.millOf(mill, 1); lots > 0; lots--) {
                seen.append(' ').append(x.takeBack(mill));
                for (int owner = 0; owner < 5; owner++) {
                    seen.append(',').append(x.ownerOf(owner, 3));
                }
            }
            seen.append(';');
        }
        return seen.toString();
    }

    /** A hash of what snapshots hold: all answers but count(8), the slots and the buffer. */
    static long digestWithout(VaneVotes x) {
        long hash = 1;
        for (int what = 0; what < 8; what++) {
            hash = 31 * hash + x.count(what);
        }
        for (int i = 0; i < 24; i++) {
            hash = 31 * hash + x.hourOf(i, 0) * 10 + x.hourOf(i, 1);
            hash = 31 * hash + x.vaneOf(i / 4, i % 4);
        }
        for (int i = 0; i < 15; i++) {
            hash = 31 * hash + x.millOf(i / 5, i % 5);
            hash = 31 * hash + x.ownerOf(i / 3, i % 3 + 1);
            hash = 31 * hash + x.ownerOf(i / 3, 0);
        }
        return 31 * (31 * hash + x.setting(0)) + x.setting(1);
    }

    /** The hash told by the document, from the other answers. */
    static long digestOf(VaneVotes x, int first, int second, String text) {
        long hash = 3671;
        for (int what = 0; what <= 8; what++) {
            hash = 31 * hash + x.count(what);
        }
        hash = 31 * hash + x.setting(0);
        hash = 31 * hash + x.setting(1);
        for (int i = 0; i < 24 * 5; i++) {
            hash = 31 * hash + x.hourOf(i / 5, i % 5);
        }
        for (int i = 0; i < 6 * 6; i++) {
            hash = 31 * hash + x.vaneOf(i / 6, i % 6);
        }
        for (int mill = 0; mill < 3; mill++) {
            for (int what = 0; what <= 5; what++) {
                hash = 31 * hash + x.millOf(mill, what);
            }
            hash = 31 * (31 * hash + x.doneIn(mill, 0)) + x.doneIn(mill, 1);
        }
        for (int owner = 0; owner < 5; owner++) {
            for (int what = 0; what <= 3; what++) {
                hash = 31 * hash + x.ownerOf(owner, what);
            }
            hash = 31 * hash + x.ifPassed(owner, 9);
        }
        hash = 31 * (31 * hash + x.turnsIn()) + x.mainVane();
        hash = 31 * hash + Double.doubleToLongBits(x.turnShare());
        hash = 31 * (31 * hash + first) + second;
        hash = 31 * hash + text.length();
        for (int i = 0; i < text.length(); i++) {
            hash = 31 * hash + text.charAt(i);
        }
        return hash;
    }
}
