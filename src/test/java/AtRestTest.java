/** Promises 24 to 26, 40 and 41: pushes at rest, drawn pipes, offers and plans. */
public final class AtRestTest {
    public static void main(String[] args) {
        restAlone();
        restClosed();
        restByHand();
        restGreat();
        squares();
        walks();
        walksOnWalls();
        offers();
        plans();
        plansClosed();
        Check.end();
    }

    private static void restAlone() {
        NearNothing x = new NearNothing();
        Check.due("24: no room", x.rest(0, 0, 9), -1);
        x.room(7, 0);
        Check.due("24: no gas", x.rest(0, 3, 0), -1);
        Check.due("24: gas -1", x.rest(0, -1, 0), -1);
        Check.due("24: part 2", x.rest(0, 0, 2), -2);
        Check.due("24: part -1", x.rest(0, 0, -1), -2);
        Check.due("24: closed", x.rest(0, 0, 0), -9);
        Check.due("24: closed below", x.rest(0, 0, 1), -9);
        x.pump(0, 6, 0, 1, 0);
        x.pump(0, 3, 0, 0, 5);
        x.leak(0, 0, 15);
        x.start(0, true);
        due(x, 0, 0, 5, 2);
        x.start(1, true);
        due(x, 0, 0, 5, 3);
        due(x, 0, 2, 0, 1);
        Check.due("24: no speed for it", x.rest(0, 1, 0), -9);
        x.leak(0, 0, 18);
        due(x, 0, 0, 2, 1);
    }

    private static void restClosed() {
        NearNothing x = new NearNothing();
        for (int k = 0; k < 5; k++) {
            x.room(1, 0);
            x.leak(k, 1, 10 + k);
        }
        x.pipe(0, 1, 1);
        x.pipe(2, 3, 1);
        x.pipe(3, 2, 8);
        x.pipe(4, 0, 5);
        x.pump(1, 0, 1, 0, 0);
        x.start(0, true);
        x.valve(0, true);
        x.valve(1, true);
        due(x, 1, 1, 21, 1);
        due(x, 0, 1, 31, 1);
        Check.due("24: closed with its neighbour", x.rest(2, 1, 0), -9);
        Check.due("24: closed with its neighbour", x.rest(3, 1, 1), -9);
        Check.due("24: shut off", x.rest(4, 1, 0), -9);
        x.valve(3, true);
        due(x, 1, 1, 35, 1);
        due(x, 4, 1, 35 * 5 + 24 * 5 + 14, 5);
    }

    /** Two rooms, a pipe of 4, pumps of 2 and 3, leaks of 5 and 7: 6x - 4y = 5, 7y - 4x = 7. */
    private static void restByHand() {
        NearNothing x = new NearNothing();
        x.room(1, 0);
        x.room(1, 0);
        x.pipe(1, 0, 4);
        x.valve(0, true);
        x.pump(0, 2, 0, 0, 0);
        x.pump(1, 3, 0, 0, 0);
        x.start(0, true);
        x.start(1, true);
        x.leak(0, 0, 5);
        x.leak(1, 0, 7);
        due(x, 0, 0, 63, 26);
        due(x, 1, 0, 31, 13);
    }

    /** A chain drained by the least at one end: each step adds what flows by the width. */
    private static void restGreat() {
        NearNothing x = new NearNothing();
        for (int k = 0; k < 5; k++) {
            x.room(1, 0);
            x.leak(k, 2, 999);
        }
        for (int k = 0; k < 4; k++) {
            x.pipe(k, k + 1, 7);
            x.valve(k, true);
        }
        x.pump(0, 0, 0, 1, 0);
        x.start(0, true);
        due(x, 0, 2, 4995, 1);
        due(x, 4, 2, 4995 * 7 + 999 * (4 + 3 + 2 + 1), 7);
    }

    private static void due(NearNothing x, int room, int gas, long above, long below) {
        Check.due("24: above of room " + room, x.rest(room, gas, 0), above);
        Check.due("24: below of room " + room, x.rest(room, gas, 1), below);
    }

    private static void squares() {
        NearNothing x = new NearNothing();
        Check.due("25: free at first", x.square(4, 4, false), 0);
        Check.due("25: a wall", x.square(4, 4, true), 1);
        Check.due("25: a wall already", x.square(4, 4, true), 0);
        Check.due("25: free", x.square(4, 4, false), 1);
        Check.due("25: x 5", x.square(5, 0, true), -1);
        Check.due("25: x -1", x.square(-1, 0, true), -1);
        Check.due("25: y 5", x.square(0, 5, true), -1);
        Check.due("25: y -1", x.square(0, -1, true), -1);
        Check.due("42: nobody", x.count(11), 4);
    }

    private static void walks() {
        NearNothing x = new NearNothing();
        Check.due("26: y 5", x.walks(5, 0, 9), -1);
        Check.due("26: y -1", x.walks(-1, 0, 9), -1);
        Check.due("26: what 3", x.walks(0, 0, 3), -2);
        Check.due("26: what -1", x.walks(0, 13, -1), -2);
        Check.due("26: n 0", x.walks(0, 0, 0), -4);
        Check.due("26: n 13", x.walks(0, 13, 0), -6);
        Check.due("26: straight through", x.walks(4, 5, 0), 1);
        Check.due("26: not yet", x.walks(4, 4, 0), 0);
        Check.due("26: stays at the edge, then back", x.walks(0, 2, 1), 4 + 2);
        Check.due("26: ended ones go on as ended", x.walks(2, 2, 1), 4 + 2);
        for (int n = 1; n <= 12; n++) {
            long sum = (long) x.walks(1, n, 0) + x.walks(1, n, 1) + x.walks(1, n, 2);
            Check.due("26: all ways of " + n, sum, 1L << 2 * n);
        }
    }

    private static void walksOnWalls() {
        NearNothing x = new NearNothing();
        for (int y = 0; y < 5; y++) {
            x.square(2, y, y != 3);
        }
        Check.due("26: one gap", x.walks(3, 5, 0), 1);
        Check.due("26: shut in", x.walks(0, 7, 0), 0);
        Check.due("26: around", x.walks(0, 8, 0), 3 + 1);
        x.square(2, 3, true);
        Check.due("26: none through", x.walks(3, 12, 0), 0);
        x.square(0, 0, true);
        Check.due("26: from a wall none are through", x.walks(0, 12, 0), 0);
        Check.due("26: from a wall none are back", x.walks(0, 12, 1), 0);
        Check.due("26: from a wall all are in it", x.walks(0, 12, 2), 1 << 24);
        x.square(0, 0, false);
        x.square(1, 0, true);
        x.square(0, 1, true);
        Check.due("26: only back", x.walks(0, 3, 1), 64 - 27);
        Check.due("26: or in it", x.walks(0, 3, 2), 27);
    }

    private static void offers() {
        NearNothing x = new NearNothing();
        Check.due("40: no room", x.offer(0, 0, 0), -1);
        x.room(1, 0);
        Check.due("40: speed 0", x.offer(0, 0, 1000), -4);
        Check.due("40: price 0", x.offer(0, 10, 0), -4);
        Check.due("40: speed 10", x.offer(0, 10, 1), -6);
        Check.due("40: price 1000", x.offer(0, 1, 1000), -6);
        for (int k = 1; k <= 6; k++) {
            Check.due("40: an offer", x.offer(0, 9, 999), k);
        }
        Check.due("40: a seventh", x.offer(0, 9, 999), -6);
        Check.due("40: a seventh below", x.offer(0, 0, 999), -4);
    }

    private static void plans() {
        NearNothing x = new NearNothing();
        Check.due("41: what 2", x.plan(-1, 2), -2);
        Check.due("41: what -1", x.plan(-1, -1), -2);
        Check.due("41: below", x.plan(-1, 0), -4);
        Check.due("41: above", x.plan(10000, 0), -6);
        Check.due("41: nothing to do", x.plan(0, 0), 0);
        x.room(1, 0);
        x.leak(0, 0, 30);
        x.leak(0, 1, 999);
        Check.due("41: no offer", x.plan(9999, 1), -9);
        x.offer(0, 5, 10);
        x.offer(0, 1, 2);
        x.offer(0, 4, 8);
        x.offer(0, 5, 10);
        plan(x, 30, 2, 2);
        plan(x, 29, 8, 4);
        plan(x, 7, 10, 1);
        plan(x, 6, 10, 1);
        plan(x, 5, 12, 3);
        plan(x, 3, 20, 7);
        plan(x, 2, 30, 15);
        plan(x, 1, -9, -9);
        x.pump(0, 9, 9, 9, 0);
        plan(x, 3, 20, 7);
        x.start(0, true);
        plan(x, 4, 0, 0);
        plan(x, 3, 2, 2);
        plan(x, 2, 12, 3);
        plan(x, 0, -9, -9);
    }

    private static void plansClosed() {
        NearNothing x = new NearNothing();
        x.room(1, 0);
        x.room(1, 0);
        x.room(1, 0);
        x.pipe(0, 1, 1);
        x.leak(0, 0, 4);
        x.offer(1, 4, 7);
        x.offer(0, 1, 9);
        x.offer(2, 9, 1);
        plan(x, 9999, 9, 2);
        x.valve(0, true);
        plan(x, 9999, 7, 1);
        plan(x, 5, 7, 1);
        plan(x, 4, 9, 2);
        plan(x, 3, 16, 3);
        x.leak(2, 0, 9);
        plan(x, 9999, 8, 5);
        x.leak(2, 0, 0);
        x.leak(0, 0, 1);
        plan(x, 9999, 7, 1);
        plan(x, 0, -9, -9);
        x.leak(0, 0, 0);
        plan(x, 0, 0, 0);
    }

    private static void plan(NearNothing x, int m, int price, int set) {
        Check.due("41: price for " + m, x.plan(m, 0), price);
        Check.due("41: set for " + m, x.plan(m, 1), set);
    }
}
