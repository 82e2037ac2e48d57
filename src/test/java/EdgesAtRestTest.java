/** The edges that the document names in III and in promises 24 to 26, 40 and 41, a test to each sentence. */
public final class EdgesAtRestTest {
    public static void main(String[] args) {
        parts();
        closedWithoutPump();
        closedLeaksCountNothing();
        reachedThroughOpenOnes();
        leastTerms();
        nothingLeaks();
        widthsAdd();
        trapsAsPumps();
        wallsNothing();
        greatestOfAll();
        squares();
        freeAtFirst();
        steps();
        staysAtTheEdges();
        throughAndBack();
        endedOnes();
        fourSquaresBeside();
        intoWalls();
        fromAWall();
        sixOffers();
        offered();
        noLeakNoPrice();
        marks();
        orLess();
        besidesWhatIsOn();
        eachRoomReached();
        noneClosed();
        leastPrice();
        leastAsBits();
        gasZeroAlone();
        Check.end();
    }

    private static NearNothing rooms(int count) {
        NearNothing x = new NearNothing();
        for (int k = 0; k < count; k++) {
            x.room(1 + k, 0);
        }
        return x;
    }

    private static void rest(String why, NearNothing x, int room, int gas, long above, long below) {
        Check.due("24: above, " + why, x.rest(room, gas, 0), above);
        Check.due("24: below, " + why, x.rest(room, gas, 1), below);
    }

    /** Promise 24: "above (part 0), below (1) .. -1; -2". */
    private static void parts() {
        NearNothing x = rooms(1);
        x.pump(0, 2, 0, 0, 0);
        x.start(0, true);
        x.leak(0, 0, 3);
        rest("part 0 and 1", x, 0, 0, 3, 2);
        Check.due("24: part -1", x.rest(0, 0, -1), -2);
        Check.due("24: part 2", x.rest(0, 0, 2), -2);
        Check.due("24: no GAS 3, no part", x.rest(0, 3, 2), -1);
        Check.due("24: no ROOM 1, no part", x.rest(1, 0, 2), -1);
    }

    /** "ROOMS from which no PUMP with SPEED for it is reached .. have none: CLOSED". */
    private static void closedWithoutPump() {
        NearNothing x = rooms(1);
        x.leak(0, 0, 5);
        rest("no PUMP", x, 0, 0, -9, -9);
        x.pump(0, 1, 0, 9, 0);
        rest("one that is off", x, 0, 0, -9, -9);
        x.start(0, true);
        rest("one that is on", x, 0, 0, 5, 1);
        rest("with no SPEED for it", x, 0, 1, -9, -9);
        rest("with SPEED for it, no LEAK", x, 0, 2, 0, 1);
        x.start(0, false);
        rest("off again", x, 0, 0, -9, -9);
    }

    /** "(their LEAKS count nothing for others)". */
    private static void closedLeaksCountNothing() {
        NearNothing x = rooms(4);
        x.pump(0, 3, 0, 0, 0);
        x.start(0, true);
        x.pipe(0, 1, 9);
        x.pipe(2, 3, 9);
        x.valve(1, true);
        for (int k = 0; k < 4; k++) {
            x.leak(k, 0, 100 + k);
        }
        rest("shut off from the others", x, 0, 0, 100, 3);
        for (int k = 1; k < 4; k++) {
            rest("CLOSED", x, k, 0, -9, -9);
        }
        x.valve(0, true);
        rest("joined", x, 0, 0, 67, 1);
        rest("the joined one", x, 1, 0, 67 * 9 + 101, 9);
        rest("CLOSED still", x, 2, 0, -9, -9);
    }

    /** "is reached through open PIPES": through all five ROOMS, either way along a PIPE. */
    private static void reachedThroughOpenOnes() {
        NearNothing x = rooms(5);
        x.pump(4, 0, 5, 0, 0);
        x.start(0, true);
        x.pipe(3, 4, 1);
        x.pipe(0, 1, 1);
        x.pipe(3, 2, 1);
        x.pipe(2, 1, 1);
        for (int k = 0; k < 3; k++) {
            x.valve(k, true);
        }
        rest("behind a shut one", x, 0, 1, -9, -9);
        rest("behind a shut one", x, 1, 1, -9, -9);
        rest("ahead of it", x, 2, 1, 0, 1);
        x.valve(3, true);
        x.leak(0, 1, 10);
        rest("four PIPES off", x, 0, 1, 42, 1);
        rest("at the PUMP", x, 4, 1, 2, 1);
        x.valve(0, false);
        rest("shut near the PUMP", x, 3, 1, -9, -9);
    }

    /** "x is told as a fraction in least terms". */
    private static void leastTerms() {
        NearNothing x = rooms(1);
        x.pump(0, 4, 0, 0, 0);
        x.pump(0, 5, 0, 0, 0);
        x.start(0, true);
        x.leak(0, 0, 6);
        rest("6 by 4", x, 0, 0, 3, 2);
        x.leak(0, 0, 8);
        rest("8 by 4", x, 0, 0, 2, 1);
        x.leak(0, 0, 999);
        rest("999 by 4", x, 0, 0, 999, 4);
        x.start(1, true);
        rest("999 by 9", x, 0, 0, 111, 1);
        x.leak(0, 0, 1);
        rest("1 by 9", x, 0, 0, 1, 9);
    }

    private static void nothingLeaks() {
        NearNothing x = rooms(2);
        x.pipe(0, 1, 3);
        x.valve(0, true);
        x.pump(0, 9, 9, 9, 0);
        x.start(0, true);
        x.gas(0, 0, 5000, false);
        rest("0 in least terms", x, 0, 0, 0, 1);
        rest("0 at the other one", x, 1, 2, 0, 1);
    }

    /** "sum over open PIPES of WIDTH": several between the same ROOMS, told either way. */
    private static void widthsAdd() {
        NearNothing x = rooms(2);
        x.pipe(0, 1, 2);
        x.pipe(1, 0, 3);
        x.pipe(0, 1, 9);
        x.valve(0, true);
        x.valve(1, true);
        x.pump(1, 1, 0, 0, 0);
        x.start(0, true);
        x.leak(0, 0, 7);
        rest("7 and 7 by 5", x, 0, 0, 42, 5);
        rest("at the PUMP", x, 1, 0, 7, 1);
        x.valve(2, true);
        rest("7 and 7 by 14", x, 0, 0, 15, 2);
        x.valve(0, false);
        x.valve(1, false);
        rest("7 and 7 by 9", x, 0, 0, 70, 9);
    }

    /** "TRAPS as PUMPS": a full one, too; a WARMED one is off. */
    private static void trapsAsPumps() {
        NearNothing x = rooms(1);
        x.pump(0, 9, 0, 0, 1);
        x.start(0, true);
        x.gas(0, 0, 1000, false);
        x.leak(0, 0, 18);
        x.ticks(3);
        Check.due("24: full", x.pumpOf(0, 1), 1);
        rest("a full TRAP", x, 0, 0, 2, 1);
        x.warmUp(0);
        rest("a WARMED TRAP", x, 0, 0, -9, -9);
    }

    /** "WALLS nothing", and no grains either. */
    private static void wallsNothing() {
        NearNothing x = rooms(1);
        x.gives(0, 5, 500);
        x.gas(0, 0, 99999, true);
        x.gas(0, 0, 99999, false);
        x.pump(0, 1, 0, 0, 0);
        x.start(0, true);
        x.leak(0, 0, 1);
        rest("LEAKS alone", x, 0, 0, 1, 1);
    }

    /** Five ROOMS, twelve PIPES of WIDTH 9, eight PUMPS of SPEED 9, LEAKS of 999. */
    private static void greatestOfAll() {
        NearNothing x = rooms(5);
        for (int k = 0; k < 12; k++) {
            x.pipe(k % 5, (k + 1 + k / 5) % 5, 9);
            x.valve(k, true);
        }
        for (int k = 0; k < 8; k++) {
            x.pump(0, 9, 9, 9, 0);
            x.start(k, true);
        }
        for (int k = 0; k < 5; k++) {
            x.leak(k, 0, 999);
        }
        rest("all goes out at 0: 4995 by 72", x, 0, 0, 555, 8);
        for (int k = 1; k < 5; k++) {
            Check.due("24: below of " + k, x.rest(k, 0, 1) > 0 ? 1 : 0, 1);
            boolean more = x.rest(k, 0, 0) * 8 > 555 * x.rest(k, 0, 1);
            Check.due("24: more than at the PUMPS " + k, more ? 1 : 0, 1);
        }
    }

    /** "5 times 5 squares", promise 25 "1; 0 it was so. -1". */
    private static void squares() {
        NearNothing x = new NearNothing();
        int[] ends = {0, 4};
        for (int sx : ends) {
            for (int sy : ends) {
                Check.due("25: a wall", x.square(sx, sy, true), 1);
                Check.due("25: it was so", x.square(sx, sy, true), 0);
                Check.due("25: free", x.square(sx, sy, false), 1);
                Check.due("25: it was so", x.square(sx, sy, false), 0);
            }
        }
        Check.due("25: x -1", x.square(-1, 0, true), -1);
        Check.due("25: x 5", x.square(5, 0, true), -1);
        Check.due("25: y -1", x.square(0, -1, true), -1);
        Check.due("25: y 5", x.square(0, 5, true), -1);
        Check.due("25: y -1 at x 1", x.square(1, -1, true), -1);
    }

    /** "(told; all free at first)". */
    private static void freeAtFirst() {
        NearNothing x = new NearNothing();
        for (int at = 0; at < 25; at++) {
            Check.due("25: it was free", x.square(at % 5, at / 5, false), 0);
        }
        for (int y = 0; y < 5; y++) {
            Check.due("26: straight through all", x.walks(y, 5, 0), 1);
        }
    }

    /** "n steps (1 .. 12)", y from 0 to 4, what 0 to 2. */
    private static void steps() {
        NearNothing x = new NearNothing();
        Check.due("26: n 0", x.walks(0, 0, 0), -4);
        Check.due("26: n -1", x.walks(0, -1, 0), -4);
        Check.due("26: n 13", x.walks(0, 13, 0), -6);
        Check.due("26: what -1", x.walks(0, 1, -1), -2);
        Check.due("26: what 3", x.walks(0, 1, 3), -2);
        Check.due("26: y -1", x.walks(-1, 1, 0), -1);
        Check.due("26: y 5", x.walks(5, 1, 0), -1);
        for (int y = 0; y < 5; y++) {
            Check.due("26: one step back", x.walks(y, 1, 1), 1);
            Check.due("26: three others", x.walks(y, 1, 2), 3);
            Check.due("26: none through", x.walks(y, 1, 0), 0);
            int all = x.walks(y, 12, 0) + x.walks(y, 12, 1) + x.walks(y, 12, 2);
            Check.due("26: all ways of 12", all, 16777216);
        }
    }

    /** "beyond the upper and lower edge: it stays". */
    private static void staysAtTheEdges() {
        NearNothing x = new NearNothing();
        for (int sy = 1; sy < 4; sy++) {
            x.square(0, sy, true);
            x.square(1, sy, true);
        }
        x.square(1, 0, true);
        x.square(1, 4, true);
        for (int y = 0; y < 5; y += 4) {
            Check.due("26: stays " + y, x.walks(y, 1, 2), 3);
            Check.due("26: stays, then back " + y, x.walks(y, 2, 1), 4 + 3);
            Check.due("26: stays twelve times " + y, x.walks(y, 12, 2), 531441);
        }
    }

    /** "beyond the left edge: BACK, beyond the right edge: THROUGH". */
    private static void throughAndBack() {
        NearNothing x = new NearNothing();
        Check.due("26: four steps are not through", x.walks(2, 4, 0), 0);
        Check.due("26: five are", x.walks(2, 5, 0), 1);
        Check.due("26: one step is back", x.walks(2, 1, 1), 1);
        x.square(4, 2, true);
        Check.due("26: a wall in the last row", x.walks(2, 5, 0), 0);
        Check.due("26: over or under it, from one of four squares", x.walks(2, 6, 0), 8);
    }

    /** "(those that ended go on as ended)". */
    private static void endedOnes() {
        NearNothing x = new NearNothing();
        for (int k = 0; k < 5; k++) {
            x.square(k, 1, true);
            x.square(k, 3, true);
        }
        int back = 1;
        for (int n = 2; n <= 5; n++) {
            Check.due("26: four times those that ended, and more", x.walks(2, n, 1) >= 4 * back ? 1 : 0, 1);
            back = x.walks(2, n, 1);
        }
        Check.due("26: two steps in a row of squares", x.walks(2, 2, 1), 4 + 2);
        Check.due("26: through in 5", x.walks(2, 5, 0), 1);
        Check.due("26: through in 6", x.walks(2, 6, 0), 4 + 5 * 2);
    }

    /** "one of the four squares beside": up alone, down alone, and once to the left on the way. */
    private static void fourSquaresBeside() {
        String[][] drawings = {
            {"....#", "###.#", "##..#", "##.##", "##..."},
            {"##...", "##.##", "##..#", "###.#", "....#"},
        };
        for (int k = 0; k < 2; k++) {
            NearNothing x = new NearNothing();
            for (int at = 0; at < 25; at++) {
                x.square(at % 5, at / 5, drawings[k][at / 5].charAt(at % 5) == '#');
            }
            Check.due("26: not in ten", x.walks(4 * k, 10, 0), 0);
            Check.due("26: in eleven one way", x.walks(4 * k, 11, 0), 1);
            Check.due("26: not from the other end", x.walks(4 - 4 * k, 12, 0), 0);
        }
    }

    /** "into a wall .. : it stays". */
    private static void intoWalls() {
        NearNothing x = new NearNothing();
        x.square(1, 2, true);
        x.square(0, 1, true);
        x.square(0, 3, true);
        for (int n = 1; n <= 12; n++) {
            Check.due("26: stays or goes back", x.walks(2, n, 2), Math.round(Math.pow(3, n)));
        }
        Check.due("26: none through", x.walks(2, 12, 0), 0);
        x.square(1, 2, false);
        Check.due("26: a way again", x.walks(2, 5, 0), 1);
    }

    /** "From a wall: none are THROUGH, all in it." */
    private static void fromAWall() {
        NearNothing x = new NearNothing();
        for (int y = 0; y < 5; y++) {
            x.square(0, y, true);
            for (int n = 1; n <= 12; n++) {
                Check.due("26: none THROUGH from a wall", x.walks(y, n, 0), 0);
                Check.due("26: none BACK from a wall", x.walks(y, n, 1), 0);
                Check.due("26: all in it", x.walks(y, n, 2), 1L << 2 * n);
            }
            x.square(0, y, false);
            Check.due("26: free again", x.walks(y, 1, 1), 1);
        }
    }

    /** "OFFERS (6 at most)", promise 40 "-6 (6, too)". */
    private static void sixOffers() {
        NearNothing x = rooms(1);
        x.leak(0, 0, 999);
        for (int k = 1; k <= 6; k++) {
            Check.due("40: how many", x.offer(0, k, 100 + k), k);
        }
        Check.due("40: a seventh", x.offer(0, 9, 1), -6);
        Check.due("40: a seventh below stays -4", x.offer(0, 9, 0), -4);
        Check.due("40: a seventh at no ROOM stays -1", x.offer(1, 9, 0), -1);
        Check.due("41: all six", x.plan(48, 1), 63);
        Check.due("41: their PRICE", x.plan(48, 0), 621);
        Check.due("41: the seventh is none", x.plan(47, 0), -9);
    }

    /** "a SPEED (1 .. 9, of GAS 0) for a PRICE (1 .. 999)". */
    private static void offered() {
        NearNothing x = rooms(1);
        x.leak(0, 0, 9);
        Check.due("40: SPEED 0", x.offer(0, 0, 1), -4);
        Check.due("40: SPEED 10", x.offer(0, 10, 1), -6);
        Check.due("40: PRICE 0", x.offer(0, 1, 0), -4);
        Check.due("40: PRICE 1000", x.offer(0, 1, 1000), -6);
        Check.due("40: none came", x.plan(9999, 0), -9);
        Check.due("40: SPEED 1, PRICE 1", x.offer(0, 1, 1), 1);
        Check.due("40: SPEED 9, PRICE 999", x.offer(0, 9, 999), 2);
        Check.due("41: the first", x.plan(9, 0), 1);
        Check.due("41: the second", x.plan(1, 0), 999);
        Check.due("41: not both", x.plan(1, 1), 2);
    }

    /** No ROOM that a LEAK reaches: the least PRICE is that of no OFFER. */
    private static void noLeakNoPrice() {
        NearNothing x = new NearNothing();
        Check.due("41: no ROOM", x.plan(0, 0), 0);
        Check.due("41: no ROOM", x.plan(0, 1), 0);
        x.room(1, 0);
        x.offer(0, 1, 1);
        Check.due("41: no LEAK", x.plan(0, 0), 0);
        Check.due("41: no LEAK", x.plan(0, 1), 0);
        x.leak(0, 0, 1);
        Check.due("41: a LEAK", x.plan(1, 1), 1);
    }

    /** "m (0 .. 9999)". */
    private static void marks() {
        NearNothing x = rooms(1);
        Check.due("41: -1", x.plan(-1, 0), -4);
        Check.due("41: 10000", x.plan(10000, 0), -6);
        Check.due("41: what -1", x.plan(0, -1), -2);
        Check.due("41: what 2", x.plan(0, 2), -2);
        Check.due("41: what 2 ahead of m", x.plan(10000, 2), -2);
        x.leak(0, 0, 1);
        x.offer(0, 9, 5);
        Check.due("41: 0 is never reached", x.plan(0, 0), -9);
        Check.due("41: 9999", x.plan(9999, 0), 5);
    }

    /** "is m .. or less", exactly. */
    private static void orLess() {
        NearNothing x = rooms(1);
        x.offer(0, 3, 5);
        x.leak(0, 0, 30);
        Check.due("41: 10 is 10", x.plan(10, 0), 5);
        Check.due("41: 10 is more than 9", x.plan(9, 0), -9);
        x.leak(0, 0, 31);
        Check.due("41: 31 by 3 is more than 10", x.plan(10, 0), -9);
        x.leak(0, 0, 29);
        Check.due("41: 29 by 3 is less", x.plan(10, 0), 5);
    }

    /** "besides what is on". */
    private static void besidesWhatIsOn() {
        NearNothing x = rooms(1);
        x.pump(0, 5, 0, 0, 0);
        x.pump(0, 4, 0, 0, 9);
        x.leak(0, 0, 10);
        Check.due("41: none is on, no OFFER", x.plan(9999, 0), -9);
        x.start(0, true);
        Check.due("41: one is on", x.plan(2, 1), 0);
        Check.due("41: it takes too little", x.plan(1, 1), -9);
        x.offer(0, 5, 7);
        Check.due("41: with an OFFER", x.plan(1, 1), 1);
        x.start(1, true);
        x.leak(0, 0, 9);
        Check.due("41: with a TRAP", x.plan(1, 1), 0);
    }

    /** "in each ROOM that a LEAK of it reaches": through open PIPES, no others. */
    private static void eachRoomReached() {
        NearNothing x = rooms(3);
        x.pipe(0, 1, 1);
        x.pump(1, 1, 0, 0, 0);
        x.start(0, true);
        x.leak(1, 0, 9);
        x.offer(0, 1, 50);
        x.offer(1, 2, 60);
        Check.due("41: where it leaks", x.plan(3, 1), 2);
        x.valve(0, true);
        x.leak(1, 0, 0);
        x.leak(0, 0, 9);
        Check.due("41: 18 and 9 as it is", x.plan(18, 1), 0);
        Check.due("41: less than that", x.plan(17, 1), 1);
        Check.due("41: the other ROOM, too", x.plan(6, 0), 50);
    }

    /** "none of these CLOSED". */
    private static void noneClosed() {
        NearNothing x = rooms(2);
        x.leak(0, 0, 9);
        x.offer(1, 9, 1);
        Check.due("41: CLOSED", x.plan(9999, 0), -9);
        Check.due("41: CLOSED", x.plan(9999, 1), -9);
        x.pipe(1, 0, 1);
        Check.due("41: CLOSED by a VALVE", x.plan(9999, 0), -9);
        x.valve(0, true);
        Check.due("41: open", x.plan(10, 0), 1);
        Check.due("41: 9 less 1", x.plan(9, 0), -9);
        x.leak(0, 0, 0);
        x.valve(0, false);
        Check.due("41: CLOSED without LEAKS", x.plan(0, 0), 0);
        for (int room = 0; room < 5; room++) {
            NearNothing y = rooms(5);
            y.leak(room, 0, 1);
            y.offer((room + 1) % 5, 9, 1);
            Check.due("41: CLOSED is ROOM " + room, y.plan(9999, 0), -9);
            y.offer(room, 9, 7);
            Check.due("41: an OFFER for ROOM " + room, y.plan(9999, 1), 2);
        }
    }

    /** "the least PRICE of a set", be it the first or the last, of one or of several. */
    private static void leastPrice() {
        NearNothing x = rooms(1);
        x.leak(0, 0, 12);
        x.offer(0, 4, 9);
        x.offer(0, 4, 8);
        x.offer(0, 4, 5);
        x.offer(0, 2, 2);
        x.offer(0, 2, 2);
        Check.due("41: two of SPEED 2", x.plan(3, 0), 4);
        Check.due("41: the last two", x.plan(3, 1), 0b11000);
        Check.due("41: with the one of 5", x.plan(2, 0), 7);
        Check.due("41: the first of SPEED 2", x.plan(2, 1), 0b01100);
        x.offer(0, 9, 3);
        Check.due("41: the sixth is cheaper", x.plan(3, 0), 3);
        Check.due("41: alone", x.plan(3, 1), 0b100000);
        Check.due("41: all six, 25 in all", x.plan(0, 0), -9);
    }

    /** "of several sets the least as bits". */
    private static void leastAsBits() {
        NearNothing x = rooms(1);
        x.leak(0, 0, 6);
        x.offer(0, 1, 3);
        x.offer(0, 1, 3);
        x.offer(0, 2, 6);
        x.offer(0, 2, 6);
        Check.due("41: 0 and 1, or 2, or 3", x.plan(3, 1), 3);
        Check.due("41: their PRICE", x.plan(3, 0), 6);
        Check.due("41: one alone", x.plan(6, 1), 1);
        Check.due("41: 0 and 2, before 1 and 2, 0 and 3, 1 and 3", x.plan(2, 1), 5);
        Check.due("41: 0, 1, 2 and 3", x.plan(1, 1), 15);
    }

    /** LEAKS and SPEEDS of the other GASES count nothing. */
    private static void gasZeroAlone() {
        NearNothing x = rooms(1);
        x.leak(0, 1, 999);
        x.leak(0, 2, 999);
        Check.due("41: none of GAS 0", x.plan(0, 0), 0);
        x.pump(0, 0, 9, 9, 0);
        x.start(0, true);
        x.leak(0, 0, 1);
        Check.due("41: no SPEED of GAS 0", x.plan(9999, 0), -9);
        x.offer(0, 1, 8);
        Check.due("41: an OFFER", x.plan(1, 0), 8);
        rest("OFFERS are no PUMPS", x, 0, 0, -9, -9);
    }
}
