/** The edges that the document names in V and in promises 34 to 39 and 42, a test to each sentence. */
public final class EdgesOfHuntsTest {
    public static void main(String[] args) {
        eightPlaces();
        lates();
        twentySprays();
        twentySights();
        hunted();
        nothingSprayed();
        allSets();
        twoAtMost();
        sawSomeOrNot();
        lessItsLate();
        lateAsItIsNow();
        aheadOfTheFirstTick();
        noneFits();
        sure();
        nextSpray();
        nextOfSeveral();
        noNext();
        whats();
        parts();
        badOnes();
        takenOnes();
        passing();
        greatOdds();
        oddsRefused();
        counts();
        otherCounts();
        lastCalls();
        Check.end();
    }

    /** "PLACES 0 .. 7". */
    private static void eightPlaces() {
        NearNothing x = new NearNothing();
        for (int place : new int[] {-1, 8}) {
            Check.due("V: no LATE of " + place, x.late(place, 3), -1);
            Check.due("V: no SPRAY of " + place, x.spray(place, 3), -1);
        }
        for (int place = 0; place < 8; place++) {
            Check.due("V: a SPRAY of " + place, x.spray(place, 10 + place), place + 1);
            Check.due("V: SEEN", x.seen(13 + place, place == 7), place + 1);
        }
        Check.due("38: 7 alone", x.hunt(1), 128);
        Check.due("38: no other", x.hunt(2), 127);
    }

    /** "a LATE (0 .. 20 TICKS; told; 3 at first)". */
    private static void lates() {
        for (int place = 0; place < 8; place++) {
            NearNothing x = new NearNothing();
            x.spray(place, 100);
            x.seen(103, true);
            Check.due("V: SEEN 3 later at first", x.hunt(1), 1 << place);
            Check.due("34: -1", x.late(place, -1), -4);
            Check.due("34: 21", x.late(place, 21), -6);
            Check.due("34: 0", x.late(place, 0), 3);
            Check.due("V: not 3 later", x.hunt(0), 0);
            x.anew();
            x.spray(place, 100);
            x.seen(100, true);
            Check.due("V: SEEN at once", x.hunt(1), 1 << place);
            Check.due("34: 20", x.late(place, 20), 0);
            x.anew();
            x.spray(place, 100);
            x.seen(120, true);
            Check.due("V: SEEN 20 later", x.hunt(1), 1 << place);
            Check.due("34: it was 20", x.late(place, 3), 20);
        }
    }

    /** "SPRAYS (20 at most) of a PLACE at a TICK", promise 35 "(0 .. 9999)". */
    private static void twentySprays() {
        NearNothing x = new NearNothing();
        Check.due("35: -1", x.spray(0, -1), -4);
        Check.due("35: 10000", x.spray(0, 10000), -6);
        Check.due("35: 0", x.spray(0, 0), 1);
        Check.due("35: 9999", x.spray(0, 9999), 2);
        for (int k = 3; k <= 20; k++) {
            Check.due("35: the same again counts", x.spray(k == 20 ? 6 : 0, 500), k);
        }
        Check.due("35: a twenty-first", x.spray(1, 500), -6);
        Check.due("35: one below stays -4", x.spray(1, -1), -4);
        Check.due("35: one of no PLACE stays -1", x.spray(8, -1), -1);
        x.seen(503, true);
        x.seen(3, false);
        Check.due("38: the twentieth counts", x.hunt(1), 64);
        Check.due("37: 20 and 2", x.anew(), 22);
    }

    /** "SEEN (20 at most)", promise 36 "at a TICK (0 .. 9999)". */
    private static void twentySights() {
        NearNothing x = new NearNothing();
        Check.due("36: -1", x.seen(-1, true), -4);
        Check.due("36: 10000", x.seen(10000, false), -6);
        Check.due("36: 0", x.seen(0, false), 1);
        Check.due("36: 9999", x.seen(9999, false), 2);
        for (int k = 3; k <= 19; k++) {
            Check.due("36: the same again counts", x.seen(7, false), k);
        }
        Check.due("38: all sets", x.hunt(0), 37);
        Check.due("36: a twentieth", x.seen(500, true), 20);
        Check.due("38: it counts", x.hunt(0), 0);
        Check.due("36: a twenty-first", x.seen(500, true), -6);
        Check.due("36: one below stays -4", x.seen(-1, false), -4);
        Check.due("37: 0 and 20", x.anew(), 20);
        Check.due("38: all sets again", x.hunt(0), 37);
    }

    /** Promise 37: "Nothing is SPRAYED and SEEN: how many both were"; LATES stay. */
    private static void hunted() {
        NearNothing x = new NearNothing();
        Check.due("37: none", x.anew(), 0);
        x.late(3, 9);
        x.spray(3, 1);
        x.seen(10, true);
        x.seen(11, false);
        Check.due("37: 1 and 2", x.anew(), 3);
        Check.due("37: nothing more", x.anew(), 0);
        Check.due("38: all sets", x.hunt(0), 37);
        Check.due("35: the first again", x.spray(3, 20), 1);
        Check.due("36: the first again", x.seen(29, true), 1);
        Check.due("34: LATES stay", x.hunt(1), 8);
        for (int k = 2; k <= 20; k++) {
            Check.due("35: up to 20 again", x.spray(3, 20), k);
        }
        Check.due("35: a twenty-first", x.spray(3, 20), -6);
    }

    private static void nothingSprayed() {
        NearNothing x = new NearNothing();
        x.seen(50, false);
        Check.due("38: none SPRAYED, none SEEN", x.hunt(0), 37);
        x.seen(50, true);
        Check.due("38: none SPRAYED, some SEEN", x.hunt(0), 0);
    }

    /** "A set of leaks (0 .. 2 PLACES)": none, 8 of one, 28 of two. */
    private static void allSets() {
        NearNothing x = new NearNothing();
        Check.due("38: 37 sets", x.hunt(0), 37);
        Check.due("38: none is SURE to leak", x.hunt(1), 0);
        Check.due("38: none is SURE not to", x.hunt(2), 0);
        Check.due("38: the first of all alike", x.hunt(3), 0);
    }

    /** "PLACES .. that may leak (2 at most do)". */
    private static void twoAtMost() {
        NearNothing x = new NearNothing();
        for (int place = 0; place < 3; place++) {
            x.spray(place, 10 * place);
            x.seen(10 * place + 3, true);
            Check.due("38: so many leak " + place, x.hunt(0), place == 0 ? 8 : place == 1 ? 1 : 0);
        }
    }

    /** "it saw some just if some PLACE of the set was SPRAYED at that TICK less its LATE". */
    private static void sawSomeOrNot() {
        NearNothing x = new NearNothing();
        x.spray(0, 10);
        x.spray(1, 10);
        x.seen(13, true);
        Check.due("38: with 0 or 1: 2 and 13", x.hunt(0), 15);
        x.seen(12, false);
        x.seen(14, false);
        Check.due("38: a TICK beside tells nothing", x.hunt(0), 15);
        x.spray(0, 20);
        x.seen(23, false);
        Check.due("38: not 0, so 1", x.hunt(1), 2);
        Check.due("38: not 0", x.hunt(2), 1);
        Check.due("38: 1 alone or with 2 .. 7", x.hunt(0), 7);
    }

    private static void lessItsLate() {
        NearNothing x = new NearNothing();
        x.late(0, 5);
        x.late(1, 2);
        x.spray(0, 10);
        x.spray(1, 13);
        x.seen(15, true);
        Check.due("38: both of them may be SEEN at 15", x.hunt(0), 15);
        x.seen(13, false);
        x.seen(12, false);
        x.seen(16, false);
        Check.due("38: neither at another TICK", x.hunt(0), 15);
    }

    private static void lateAsItIsNow() {
        NearNothing x = new NearNothing();
        x.spray(5, 40);
        x.seen(44, true);
        Check.due("38: LATE 3", x.hunt(0), 0);
        x.late(5, 4);
        Check.due("38: LATE 4", x.hunt(1), 32);
        x.late(5, 5);
        Check.due("38: LATE 5", x.hunt(0), 0);
    }

    /** SEEN ahead of TICK 3: nothing was SPRAYED below TICK 0. SEEN behind 9999 can not be told. */
    private static void aheadOfTheFirstTick() {
        NearNothing x = new NearNothing();
        for (int tick = 0; tick < 3; tick++) {
            x.spray(tick, 0);
            x.seen(tick, false);
        }
        Check.due("38: all sets", x.hunt(0), 37);
        x.seen(3, true);
        Check.due("38: 0, 1 or 2: 3, 3 and 15", x.hunt(0), 21);
        x.anew();
        x.spray(4, 9996);
        x.seen(9999, true);
        Check.due("38: 3 less than 9999", x.hunt(1), 16);
        x.late(4, 0);
        x.spray(4, 9999);
        Check.due("38: at once", x.hunt(1), 16);
    }

    /** "if one FITS (else no PLACE is SURE)". */
    private static void noneFits() {
        NearNothing x = new NearNothing();
        x.spray(1, 10);
        x.seen(13, true);
        x.seen(13, false);
        Check.due("38: none FITS", x.hunt(0), 0);
        Check.due("38: none is SURE to leak", x.hunt(1), 0);
        Check.due("38: none is SURE not to", x.hunt(2), 0);
        Check.due("38: no NEXT SPRAY", x.hunt(3), -9);
    }

    /** "SURE: a PLACE that is in all sets that FIT (or in none)". */
    private static void sure() {
        NearNothing x = new NearNothing();
        for (int place = 0; place < 8; place++) {
            x.spray(place, 10 * place);
            x.seen(10 * place + 3, place == 0 || place == 7);
        }
        Check.due("38: one FITS", x.hunt(0), 1);
        Check.due("38: SURE to", x.hunt(1), 0x81);
        Check.due("38: SURE not to", x.hunt(2), 0x7e);
        NearNothing y = new NearNothing();
        for (int place = 0; place < 8; place++) {
            y.spray(place, 10);
        }
        y.seen(13, false);
        Check.due("38: the set of none alone", y.hunt(0), 1);
        Check.due("38: none is SURE to", y.hunt(1), 0);
        Check.due("38: all are SURE not to", y.hunt(2), 255);
    }

    /** "the one for which the greater of how many have it and how many don't is least". */
    private static void nextSpray() {
        NearNothing x = new NearNothing();
        x.spray(0, 10);
        x.spray(1, 10);
        x.spray(2, 10);
        x.seen(13, true);
        for (int place = 3; place < 8; place++) {
            x.spray(place, 20);
        }
        x.seen(23, false);
        x.spray(1, 30);
        x.spray(2, 30);
        x.seen(33, true);
        // 1, 2, 01, 02, 12: 0 in two, 1 and 2 in three of five.
        Check.due("38: five", x.hunt(0), 5);
        Check.due("38: of several the least", x.hunt(3), 0);
        x.spray(2, 40);
        x.spray(0, 40);
        x.seen(43, true);
        // 2, 01, 02, 12: 0 and 1 in two, 2 in three of four.
        Check.due("38: four", x.hunt(0), 4);
        Check.due("38: the even one", x.hunt(3), 0);
        x.late(0, 0);
        x.spray(0, 50);
        x.seen(50, false);
        // Not 0 (nor is 0 SEEN at 13, 43 now): 2, 12.
        Check.due("38: two", x.hunt(0), 2);
        Check.due("38: 2 is in all, so 1", x.hunt(3), 1);
        greaterNumber();
    }

    /** A greater number is next if it halves better: 7 alone, 7 with 6, 6 alone, 6 with 5, 7 with 5. */
    private static void greaterNumber() {
        NearNothing x = new NearNothing();
        for (int place = 0; place < 5; place++) {
            x.spray(place, 10);
        }
        x.seen(13, false);
        x.spray(6, 20);
        x.spray(7, 20);
        x.seen(23, true);
        Check.due("38: five", x.hunt(0), 5);
        Check.due("38: 5 in two, 6 and 7 in three", x.hunt(3), 5);
        x.spray(5, 30);
        x.spray(6, 30);
        x.seen(33, true);
        // 6, 56, 57, 67: 5 in two, 6 in three, 7 in two.
        Check.due("38: four", x.hunt(0), 4);
        Check.due("38: 5 and 7 in two", x.hunt(3), 5);
        x.late(5, 0);
        x.spray(5, 40);
        x.spray(7, 37);
        x.seen(40, true);
        // 5 is SEEN at 40 alone now: 56, 67; 6 is in both.
        Check.due("38: two", x.hunt(0), 2);
        Check.due("38: 6 is in all", x.hunt(1), 64);
        Check.due("38: 5 or 7", x.hunt(3), 5);
    }

    private static void nextOfSeveral() {
        NearNothing x = new NearNothing();
        x.spray(0, 10);
        x.spray(1, 10);
        x.seen(13, false);
        Check.due("38: 22 sets of the six", x.hunt(0), 22);
        Check.due("38: the least of those that are open", x.hunt(3), 2);
        Check.due("38: 0 and 1 are SURE not to", x.hunt(2), 3);
    }

    /** "-9 none": all are SURE. */
    private static void noNext() {
        NearNothing x = new NearNothing();
        for (int place = 0; place < 8; place++) {
            x.spray(place, 10 * place);
            x.seen(10 * place + 3, place == 5);
        }
        Check.due("38: one FITS", x.hunt(0), 1);
        Check.due("38: no NEXT SPRAY", x.hunt(3), -9);
    }

    private static void whats() {
        NearNothing x = new NearNothing();
        Check.due("38: what -1", x.hunt(-1), -2);
        Check.due("38: what 4", x.hunt(4), -2);
        Check.due("42: REFUSALS -2", x.count(12), 2);
    }

    /** "N (1 .. 30) parts". */
    private static void parts() {
        NearNothing x = new NearNothing();
        Check.due("39: N 0", x.odds(0, 0, 0, 0, 1), -4);
        Check.due("39: N 31", x.odds(31, 0, 0, 0, 1), -6);
        Check.due("39: N 1", x.odds(1, 0, 1, 0, 1), 1);
        Check.due("39: N 30", x.odds(30, 0, 1, 0, 1), 30);
    }

    /** "k (0 .. N) of them bad". */
    private static void badOnes() {
        NearNothing x = new NearNothing();
        Check.due("39: k -1", x.odds(9, -1, 2, 0, 0), -4);
        Check.due("39: k 10 of 9", x.odds(9, 10, 2, 0, 0), -6);
        Check.due("39: none bad", x.odds(9, 0, 2, 0, 0), 36);
        Check.due("39: all bad", x.odds(9, 9, 2, 0, 0), 0);
        Check.due("39: all bad, one may be", x.odds(9, 9, 2, 1, 0), 0);
        Check.due("39: all bad, two may be", x.odds(9, 9, 2, 2, 0), 36);
        Check.due("39: k 31", x.odds(30, 31, 2, 0, 0), -6);
    }

    /** "n (0 .. 20)", promise 39 "-6 (n above N, too)". */
    private static void takenOnes() {
        NearNothing x = new NearNothing();
        Check.due("39: n -1", x.odds(30, 1, -1, 0, 0), -4);
        Check.due("39: n 21", x.odds(30, 1, 21, 0, 0), -6);
        Check.due("39: n 20", x.odds(30, 1, 20, 1, 0), 30045015);
        Check.due("39: n 0", x.odds(30, 30, 0, 0, 0), 1);
        Check.due("39: n 0, of how many", x.odds(30, 30, 0, 0, 1), 1);
        Check.due("39: n above N", x.odds(5, 1, 6, 0, 0), -6);
        Check.due("39: n is N", x.odds(5, 1, 5, 1, 0), 1);
        Check.due("39: n is N, none may be bad", x.odds(5, 1, 5, 0, 0), 0);
    }

    /** "passes if c (0 .. n) or fewer bad are among them". */
    private static void passing() {
        NearNothing x = new NearNothing();
        Check.due("39: c -1", x.odds(6, 3, 3, -1, 0), -4);
        Check.due("39: c 4 of 3", x.odds(6, 3, 3, 4, 0), -6);
        Check.due("39: c 0", x.odds(6, 3, 3, 0, 0), 1);
        Check.due("39: c 1", x.odds(6, 3, 3, 1, 0), 10);
        Check.due("39: c 2", x.odds(6, 3, 3, 2, 0), 19);
        Check.due("39: c is n", x.odds(6, 3, 3, 3, 0), 20);
        Check.due("39: of how many", x.odds(6, 3, 3, 0, 1), 20);
        Check.due("39: part -1", x.odds(6, 3, 3, 0, -1), -2);
        Check.due("39: part 2", x.odds(6, 3, 3, 0, 2), -2);
    }

    /** The greatest numbers of ways: 15 of 30 in all, by each c. */
    private static void greatOdds() {
        NearNothing x = new NearNothing();
        Check.due("39: 15 of 30", x.odds(30, 15, 15, 0, 1), 155117520);
        Check.due("39: all pass", x.odds(30, 15, 15, 15, 0), 155117520);
        Check.due("39: all but one", x.odds(30, 15, 15, 14, 0), 155117519);
        Check.due("39: half of them", x.odds(30, 15, 15, 7, 0), 77558760);
        Check.due("39: one alone", x.odds(30, 15, 15, 0, 0), 1);
    }

    private static void oddsRefused() {
        NearNothing x = new NearNothing();
        Check.due("39: part ahead of all", x.odds(0, -1, 21, -1, 2), -2);
        Check.due("39: below ahead of above", x.odds(31, 32, 21, -1, 0), -4);
        Check.due("39: n above N, but N below", x.odds(0, 0, 1, 0, 0), -4);
        Check.due("42: REFUSALS -2", x.count(12), 1);
        Check.due("42: REFUSALS -4", x.count(14), 2);
    }

    /** Promise 42 "11 .. 17 REFUSALS -1 .. -7": one of each, and none is -5. */
    private static void counts() {
        NearNothing x = new NearNothing();
        for (int what = 0; what <= 8; what++) {
            Check.due("42: at first " + what, x.count(what), 0);
        }
        for (int what = 11; what <= 17; what++) {
            Check.due("42: at first " + what, x.count(what), 0);
        }
        x.room(0, 9);
        x.hunt(9);
        x.undo();
        x.room(0, 0);
        x.room(100, 0);
        x.room(1, 0);
        x.pump(0, 1, 1, 1, 0);
        Check.rule(x, "P0:t=0");
        x.start(0, true);
        int[] due = {1, 1, 1, 1, 0, 1, 1};
        for (int what = 11; what <= 17; what++) {
            Check.due("42: one of each " + what, x.count(what), due[what - 11]);
        }
    }

    /** "-9 for another what", which is no REFUSAL. */
    private static void otherCounts() {
        NearNothing x = new NearNothing();
        for (int what : new int[] {-1, 9, 10, 18, 19, -11, Integer.MIN_VALUE, Integer.MAX_VALUE}) {
            Check.due("42: another what " + what, x.count(what), -9);
        }
        Check.due("42: none was refused", x.count(11) + x.count(12) + x.count(14) + x.count(16), 0);
    }

    /** "An object is used for at most 512 calls after it has been made": the last ones answer still. */
    private static void lastCalls() {
        NearNothing x = new NearNothing();
        x.room(1, 0);
        for (int k = 2; k <= 505; k++) {
            x.gas(0, k % 3, 1, k % 2 == 0);
        }
        Check.due("512: the 506th", x.in(0, 0, 0) + x.in(0, 1, 0), 168);
        Check.due("512: the 508th", x.in(0, 2, 0), 84);
        Check.due("512: the 509th", x.all(0, 0), 168);
        Check.due("512: the 510th", x.ticks(200), 200);
        Check.due("512: the 511th", x.room(0, 0), -4);
        Check.due("512: the 512th", x.count(14), 1);
    }
}
