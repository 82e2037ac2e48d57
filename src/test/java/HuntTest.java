/** Promises 34 to 39 and 42: hunts for leaks, odds, counts. */
public final class HuntTest {
    public static void main(String[] args) {
        lates();
        sprays();
        hunts();
        sureLeak();
        nextSpray();
        againstItself();
        odds();
        oddsRefusals();
        counts();
        Check.end();
    }

    private static void lates() {
        NearNothing x = new NearNothing();
        Check.due("34: place 8", x.late(8, -1), -1);
        Check.due("34: place -1", x.late(-1, 0), -1);
        Check.due("34: below", x.late(0, -1), -4);
        Check.due("34: above", x.late(0, 21), -6);
        Check.due("34: at first", x.late(7, 20), 3);
        Check.due("34: was", x.late(7, 0), 20);
    }

    private static void sprays() {
        NearNothing x = new NearNothing();
        Check.due("35: place 8", x.spray(8, -1), -1);
        Check.due("35: place -1", x.spray(-1, 0), -1);
        Check.due("35: below", x.spray(0, -1), -4);
        Check.due("35: above", x.spray(0, 10000), -6);
        Check.due("36: below", x.seen(-1, true), -4);
        Check.due("36: above", x.seen(10000, true), -6);
        for (int k = 1; k <= 20; k++) {
            Check.due("35: a spray", x.spray(7, 9999), k);
            Check.due("36: seen", x.seen(9999, false), k);
        }
        Check.due("35: one too many", x.spray(7, 0), -6);
        Check.due("35: one too many, below", x.spray(7, -1), -4);
        Check.due("36: one too many", x.seen(0, false), -6);
        Check.due("36: one too many, below", x.seen(-1, false), -4);
        Check.due("37: how many both were", x.anew(), 40);
        Check.due("37: nothing", x.anew(), 0);
        Check.due("35: from one on", x.spray(0, 0), 1);
        Check.due("37: one", x.anew(), 1);
        Check.due("36: from one on", x.seen(0, true), 1);
    }

    private static void hunts() {
        NearNothing x = new NearNothing();
        Check.due("38: what 4", x.hunt(4), -2);
        Check.due("38: what -1", x.hunt(-1), -2);
        Check.due("38: all sets", x.hunt(0), 37);
        x.seen(100, false);
        Check.due("38: nothing sprayed, nothing seen", x.hunt(0), 37);
        x.late(4, 20);
        x.late(5, 0);
        x.spray(4, 30);
        x.spray(5, 50);
        x.spray(6, 47);
        x.spray(7, 50);
        x.seen(50, false);
        Check.due("38: none of 4, 5 and 6", x.hunt(0), 1 + 5 + 10);
        Check.due("38: sure not to", x.hunt(2), 0x70);
        Check.due("38: none is sure to", x.hunt(1), 0);
        x.late(4, 19);
        Check.due("38: by the late as it is now", x.hunt(2), 0x60);
    }

    private static void sureLeak() {
        NearNothing x = new NearNothing();
        x.spray(2, 10);
        x.seen(13, true);
        Check.due("38: with 2", x.hunt(0), 8);
        Check.due("38: sure to leak", x.hunt(1), 4);
        Check.due("38: others may", x.hunt(2), 0);
        Check.due("38: next", x.hunt(3), 0);
        x.spray(5, 20);
        x.seen(23, true);
        Check.due("38: both", x.hunt(0), 1);
        Check.due("38: sure both", x.hunt(1), 0x24);
        Check.due("38: and no other", x.hunt(2), 0xDB);
        Check.due("38: no next", x.hunt(3), -9);
        x.spray(7, 30);
        x.seen(33, true);
        Check.due("38: two at most", x.hunt(0), 0);
    }

    /** Of 0 and 1 one leaks at least, of 1 and 2 one at least, 3 .. 7 don't: 1, 01, 02, 12 fit. */
    private static void nextSpray() {
        NearNothing x = new NearNothing();
        x.spray(0, 10);
        x.spray(1, 10);
        x.seen(13, true);
        x.spray(1, 20);
        x.spray(2, 20);
        x.seen(23, true);
        for (int place = 3; place < 8; place++) {
            x.spray(place, 30);
        }
        x.seen(33, false);
        Check.due("38: four", x.hunt(0), 4);
        Check.due("38: even halves first", x.hunt(3), 0);
        x.late(0, 4);
        x.spray(0, 40);
        x.seen(44, false);
        // Now 0 does not leak and 1 was seen at 13: 1, 12.
        Check.due("38: two", x.hunt(0), 2);
        Check.due("38: sure of 1", x.hunt(1), 2);
        Check.due("38: 2 is left", x.hunt(3), 2);
    }

    private static void againstItself() {
        NearNothing x = new NearNothing();
        x.seen(5, true);
        x.seen(5, false);
        Check.due("38: none fits", x.hunt(0), 0);
        Check.due("38: so none is sure", x.hunt(1), 0);
        Check.due("38: nor sure not to", x.hunt(2), 0);
        Check.due("38: none next", x.hunt(3), -9);
    }

    private static void odds() {
        NearNothing x = new NearNothing();
        Check.due("39: none taken", x.odds(1, 1, 0, 0, 0), 1);
        Check.due("39: the bad one", x.odds(1, 1, 1, 0, 0), 0);
        Check.due("39: may be bad", x.odds(1, 1, 1, 1, 0), 1);
        Check.due("39: all", x.odds(30, 30, 15, 0, 1), 155117520);
        Check.due("39: 20 of 30", x.odds(30, 0, 20, 0, 0), 30045015);
        Check.due("39: too many good ones wanted", x.odds(5, 4, 3, 1, 0), 0);
        Check.due("39: two bad at least", x.odds(5, 4, 3, 2, 0), 6);
        Check.due("39: by hand", x.odds(6, 2, 3, 0, 0), 4);
        Check.due("39: of", x.odds(6, 2, 3, 0, 1), 20);
    }

    private static void oddsRefusals() {
        NearNothing x = new NearNothing();
        Check.due("39: part 2", x.odds(-1, 99, 0, 0, 2), -2);
        Check.due("39: part -1", x.odds(1, 0, 0, 0, -1), -2);
        Check.due("39: parts 0", x.odds(0, 99, 0, 0, 0), -4);
        Check.due("39: bad -1", x.odds(31, -1, 0, 0, 0), -4);
        Check.due("39: taken -1", x.odds(31, 0, -1, 0, 0), -4);
        Check.due("39: c -1", x.odds(31, 0, 0, -1, 0), -4);
        Check.due("39: parts 31", x.odds(31, 0, 0, 0, 0), -6);
        Check.due("39: bad above parts", x.odds(3, 4, 0, 0, 0), -6);
        Check.due("39: taken 21", x.odds(30, 0, 21, 0, 0), -6);
        Check.due("39: taken above parts", x.odds(3, 0, 4, 0, 0), -6);
        Check.due("39: c above taken", x.odds(3, 0, 2, 3, 0), -6);
        Check.due("42: others", x.count(12), 2);
        Check.due("42: below", x.count(14), 4);
        Check.due("42: above", x.count(16), 5);
    }

    private static void counts() {
        NearNothing x = new NearNothing();
        Check.due("42: 9", x.count(9), -9);
        Check.due("42: 10", x.count(10), -9);
        Check.due("42: 18", x.count(18), -9);
        Check.due("42: -1", x.count(-1), -9);
        Check.due("42: least", x.count(Integer.MIN_VALUE), -9);
        Check.due("42: greatest", x.count(Integer.MAX_VALUE), -9);
        x.room(1, 0);
        x.room(1, 0);
        x.pipe(0, 1, 1);
        x.pipe(0, 1, 1);
        x.pump(0, 1, 1, 1, 0);
        x.pump(0, 1, 1, 1, 1);
        x.pump(0, 1, 1, 1, 1);
        x.ticks(9);
        x.valve(1, true);
        x.start(2, true);
        x.start(0, true);
        x.warmUp(1);
        x.feed(3, 0);
        int[] due = {9, 2, 2, 1, 3, 2, 0, 4, 3};
        for (int what = 0; what < due.length; what++) {
            Check.due("42: count " + what, x.count(what), due[what]);
        }
        x.undo();
        Check.due("42: less one act", x.count(7), 3);
        for (int what = 11; what <= 17; what++) {
            Check.due("42: nothing was refused " + what, x.count(what), 0);
        }
    }
}
