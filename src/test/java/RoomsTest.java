/** Promises 1 to 13: a new object, rooms, pipes, pumps, leaks, ticks, and where the gas is. */
public final class RoomsTest {
    public static void main(String[] args) {
        newObject();
        rooms();
        warmth();
        gas();
        gives();
        pipes();
        pumps();
        leaks();
        ticks();
        flowing();
        narrowFlow();
        pumping();
        traps();
        where();
        greatPush();
        when();
        whenOfTheLast();
        Check.end();
    }

    private static void newObject() {
        NearNothing x = new NearNothing();
        for (int what = 0; what <= 8; what++) {
            Check.due("1: count of a new object " + what, x.count(what), 0);
        }
        for (int what = 11; what <= 17; what++) {
            Check.due("1: refusals of a new object " + what, x.count(what), 0);
        }
        Check.due("1: no room", x.in(0, 0, 0), -1);
        Check.due("1: nothing told", x.all(0, 0), 0);
    }

    private static void rooms() {
        NearNothing x = new NearNothing();
        Check.due("2: stuff before size", x.room(0, 4), -1);
        Check.due("2: stuff -1", x.room(1, -1), -1);
        Check.due("2: size 0", x.room(0, 0), -4);
        Check.due("2: size 100", x.room(100, 3), -6);
        Check.due("2: size 1", x.room(1, 0), 0);
        Check.due("2: size 99", x.room(99, 3), 1);
        Check.due("2: third", x.room(50, 2), 2);
        Check.due("2: fourth", x.room(50, 1), 3);
        Check.due("2: fifth", x.room(50, 0), 4);
        Check.due("2: sixth", x.room(50, 0), -6);
        Check.due("2: sixth of no stuff", x.room(50, 9), -1);
        Check.due("2: sixth too small", x.room(0, 0), -4);
        Check.due("2: five", x.count(1), 5);
        Check.due("2: empty at first", x.in(4, 2, 0) + x.in(4, 2, 1) + x.in(4, 2, 2), 0);
    }

    private static void warmth() {
        NearNothing x = new NearNothing();
        Check.due("3: no room", x.warm(0, 5), -1);
        x.room(1, 0);
        Check.due("3: room -1", x.warm(-1, 99), -1);
        Check.due("3: at first", x.warm(0, 0), 5);
        Check.due("3: to 9", x.warm(0, 9), 0);
        Check.due("3: -1", x.warm(0, -1), -4);
        Check.due("3: 10", x.warm(0, 10), -6);
        Check.due("3: refused ones changed nothing", x.warm(0, 5), 9);
    }

    private static void gas() {
        NearNothing x = new NearNothing();
        Check.due("4: no room", x.gas(0, 0, 1, false), -1);
        x.room(10, 0);
        Check.due("4: gas 3", x.gas(0, 3, 1, false), -1);
        Check.due("4: gas -1", x.gas(0, -1, 0, true), -1);
        Check.due("4: none", x.gas(0, 0, 0, false), -4);
        Check.due("4: below", x.gas(0, 0, -5, false), -4);
        Check.due("4: above", x.gas(0, 0, 100000, true), -6);
        Check.due("4: huge", x.gas(0, 0, Integer.MAX_VALUE, true), -6);
        for (int k = 1; k <= 10; k++) {
            Check.due("4: fill", x.gas(0, 1, 99999, false), 99999 * k);
        }
        Check.due("4: one too many", x.gas(0, 1, 10, false), -6);
        Check.due("4: just full", x.gas(0, 1, 9, false), 999999);
        Check.due("4: full", x.gas(0, 1, 1, false), -6);
        Check.due("4: the wall is another place", x.gas(0, 1, 1, true), 1);
        Check.due("4: another gas, too", x.gas(0, 2, 7, false), 7);
        Check.due("4: all in", x.all(1, 0), 1000000);
        Check.due("4: in the room", x.in(0, 1, 0), 999999);
        Check.due("4: on the wall", x.in(0, 1, 1), 1);
        Check.due("4: refused ones", x.count(16), 4);
    }

    private static void gives() {
        NearNothing x = new NearNothing();
        Check.due("5: stuff 4", x.gives(4, 0, -1), -1);
        Check.due("5: stuff -1", x.gives(-1, 0, 0), -1);
        Check.due("5: warmth 10", x.gives(0, 10, 0), -1);
        Check.due("5: warmth -1", x.gives(0, -1, 0), -1);
        Check.due("5: -1", x.gives(0, 0, -1), -4);
        Check.due("5: 501", x.gives(0, 0, 501), -6);
        Check.due("5: 500", x.gives(3, 9, 500), 0);
        Check.due("5: back", x.gives(3, 9, 333), 500);
        Check.due("5: others not", x.gives(3, 8, 1), 0);
        Check.due("5: others not", x.gives(2, 9, 1), 0);
        x.room(10, 3);
        x.warm(0, 9);
        x.gas(0, 2, 1000, true);
        x.ticks(1);
        Check.due("5: given", x.in(0, 2, 0), 333);
        x.ticks(1);
        Check.due("5: cut", x.in(0, 2, 0), 333 + 222);
        Check.due("5: left", x.in(0, 2, 1), 445);
        x.warm(0, 8);
        x.ticks(3);
        Check.due("5: by warmth, cut to none", x.in(0, 2, 1), 445);
        x.gives(3, 8, 500);
        x.ticks(20);
        Check.due("5: the last grain stays", x.in(0, 2, 1), 1);
    }

    private static void pipes() {
        NearNothing x = new NearNothing();
        x.room(1, 0);
        Check.due("6: itself", x.pipe(0, 0, 1), -1);
        Check.due("6: to none", x.pipe(0, 1, 0), -1);
        x.room(1, 0);
        Check.due("6: from none", x.pipe(-1, 0, 1), -1);
        Check.due("6: width 0", x.pipe(0, 1, 0), -4);
        Check.due("6: width 10", x.pipe(0, 1, 10), -6);
        for (int k = 0; k < 12; k++) {
            Check.due("6: pipe", x.pipe(k % 2, 1 - k % 2, 1 + k % 9), k);
        }
        Check.due("6: a thirteenth", x.pipe(0, 1, 1), -6);
        Check.due("6: too narrow first", x.pipe(0, 1, 0), -4);
        Check.due("6: twelve", x.count(2), 12);
        Check.due("6: shut", x.count(3), 0);
        Check.due("6: the last has a valve", x.valve(11, true), 1);
        Check.due("6: there is none behind", x.valve(12, true), -1);
    }

    private static void pumps() {
        NearNothing x = new NearNothing();
        Check.due("7: no room", x.pump(0, -1, 0, 0, 0), -1);
        x.room(1, 0);
        Check.due("7: speed 0", x.pump(0, -1, 0, 10, 0), -4);
        Check.due("7: speed 1", x.pump(0, 0, -1, 0, 0), -4);
        Check.due("7: speed 2", x.pump(0, 0, 0, -1, 0), -4);
        Check.due("7: limit", x.pump(0, 0, 0, 0, -1), -4);
        Check.due("7: speed 0 above", x.pump(0, 10, 0, 0, 0), -6);
        Check.due("7: speed 1 above", x.pump(0, 0, 10, 0, 0), -6);
        Check.due("7: speed 2 above", x.pump(0, 0, 0, 10, 0), -6);
        Check.due("7: limit above", x.pump(0, 0, 0, 0, 100000), -6);
        for (int k = 0; k < 8; k++) {
            Check.due("7: pump", x.pump(0, 9, 0, 9, k == 7 ? 99999 : 0), k);
        }
        Check.due("7: a ninth", x.pump(0, 1, 1, 1, 0), -6);
        Check.due("7: eight", x.count(4), 8);
        Check.due("7: off", x.count(5), 0);
        Check.due("7: limit told", x.pumpOf(7, 5), 99999);
        Check.due("7: none", x.pumpOf(6, 5), 0);
    }

    private static void leaks() {
        NearNothing x = new NearNothing();
        Check.due("8: no room", x.leak(0, 0, -1), -1);
        x.room(1, 0);
        Check.due("8: no gas", x.leak(0, 3, 0), -1);
        Check.due("8: below", x.leak(0, 0, -1), -4);
        Check.due("8: above", x.leak(0, 0, 1000), -6);
        Check.due("8: at first", x.leak(0, 2, 999), 0);
        Check.due("8: was", x.leak(0, 2, 4), 999);
        x.ticks(200);
        Check.due("8: leaked", x.in(0, 2, 0), 800);
        Check.due("8: is in", x.all(2, 0), 800);
        Check.due("8: others not", x.all(1, 0), 0);
    }

    private static void ticks() {
        NearNothing x = new NearNothing();
        Check.due("9: none", x.ticks(0), -4);
        Check.due("9: below", x.ticks(Integer.MIN_VALUE), -4);
        Check.due("9: above", x.ticks(201), -6);
        for (int k = 1; k <= 24; k++) {
            Check.due("9: many", x.ticks(200), 200 * k);
        }
        Check.due("9: nearly all", x.ticks(199), 4999);
        Check.due("9: too many", x.ticks(2), -6);
        Check.due("9: the last", x.ticks(1), 5000);
        Check.due("9: no more", x.ticks(1), -6);
        Check.due("9: told", x.count(0), 5000);
    }

    /** Both shares go by what was there before; what comes in goes on at the next tick. */
    private static void flowing() {
        NearNothing x = new NearNothing();
        x.room(1, 0);
        x.room(2, 0);
        x.room(1, 0);
        x.pipe(0, 1, 9);
        x.pipe(1, 2, 9);
        x.valve(0, true);
        x.valve(1, true);
        x.gas(0, 0, 1000, false);
        x.gas(1, 0, 1000, false);
        x.ticks(1);
        Check.due("9: pipe from 0", x.in(0, 0, 0), 1000 - 90 + 45);
        Check.due("9: pipe from 1", x.in(1, 0, 0), 1000 - 45 + 90 - 45);
        Check.due("9: pipe from 2", x.in(2, 0, 0), 45);
        x.valve(0, false);
        x.ticks(1);
        Check.due("9: shut", x.in(0, 0, 0), 955);
        Check.due("9: leaks come ahead of pipes", x.leak(2, 1, 100), 0);
        x.ticks(1);
        Check.due("9: leaked and gone on", x.in(1, 1, 0), 9);
    }

    /** Twelve pipes of width 9 from a room of size 1 want 108 of 100 grains. */
    private static void narrowFlow() {
        NearNothing x = new NearNothing();
        x.room(1, 0);
        x.room(99, 0);
        for (int k = 0; k < 12; k++) {
            x.pipe(0, 1, 9);
            x.valve(k, true);
        }
        x.gas(0, 0, 100, false);
        x.ticks(1);
        Check.due("9: no more than is there", x.in(0, 0, 0), 0);
        Check.due("9: all there", x.in(1, 0, 0), 100);

        NearNothing z = new NearNothing();
        z.room(1, 0);
        z.room(1, 0);
        for (int k = 0; k < 12; k++) {
            z.pipe(k == 11 ? 1 : 0, k == 11 ? 0 : 1, 9);
            z.valve(k, true);
        }
        z.gas(0, 0, 100, false);
        z.gas(1, 0, 30, false);
        z.ticks(1);
        // 11 pipes: 0 gives 9 and gets 2 each; the last one from 1 first.
        Check.due("9: what came in may go on", z.in(0, 0, 0), 100 - 12 * 9 + 12 * 2);
        Check.due("9: the other", z.in(1, 0, 0), 30 + 12 * 9 - 12 * 2);
    }

    private static void pumping() {
        NearNothing x = new NearNothing();
        x.room(1, 0);
        x.pump(0, 9, 0, 1, 0);
        x.pump(0, 5, 1, 0, 0);
        x.gas(0, 0, 1000, false);
        x.gas(0, 1, 99, false);
        x.gas(0, 2, 199, false);
        x.ticks(1);
        Check.due("9: off", x.in(0, 0, 0), 1000);
        x.start(0, true);
        x.start(1, true);
        x.ticks(1);
        Check.due("9: the second takes of what is left", x.pumpOf(1, 1), 45);
        Check.due("9: the first", x.pumpOf(0, 1), 90);
        Check.due("9: cut to none", x.pumpOf(1, 2), 0);
        Check.due("9: cut", x.pumpOf(0, 3), 1);
        Check.due("9: left", x.in(0, 0, 0), 865);
        x.ticks(1);
        Check.due("9: sums up", x.pumpOf(0, 1), 90 + 77);
        Check.due("9: out", x.all(0, 1), 90 + 77 + 45 + 39);
        Check.due("9: not in traps", x.all(0, 4), 0);
    }

    private static void traps() {
        NearNothing x = new NearNothing();
        x.room(1, 0);
        x.pump(0, 9, 9, 9, 100);
        x.gas(0, 0, 700, false);
        x.gas(0, 1, 700, false);
        x.gas(0, 2, 700, false);
        x.start(0, true);
        x.ticks(1);
        Check.due("9: trap took gas 0", x.pumpOf(0, 1), 63);
        Check.due("9: the last grains", x.pumpOf(0, 2), 37);
        Check.due("9: full", x.pumpOf(0, 3), 0);
        x.ticks(5);
        Check.due("9: stays full", x.in(0, 2, 0), 700);
        Check.due("9: no out", x.all(0, 1), 0);
        Check.due("9: in traps", x.all(0, 4) + x.all(1, 4), 100);
        Check.due("20: warmed", x.warmUp(0), 1);
        Check.due("20: off", x.pumpOf(0, 0), 0);
        x.ticks(1);
        Check.due("9: a tenth, rounded up", x.pumpOf(0, 1), 63 - 7);
        Check.due("9: a tenth, rounded up", x.pumpOf(0, 2), 37 - 4);
        Check.due("9: back in the room", x.in(0, 0, 0), 700 - 56);
        Check.due("9: still warmed", x.pumpOf(0, 4), 1);
        x.ticks(100);
        Check.due("9: empty", x.pumpOf(0, 1) + x.pumpOf(0, 2), 0);
        Check.due("9: warmed no more", x.pumpOf(0, 4), 0);
        Check.due("9: and may be started", x.start(0, true), 1);
        x.start(0, false);
        x.room(1, 0);
        x.pump(1, 1, 1, 1, 5);
        Check.due("20: an empty one", x.warmUp(1), 1);
        Check.due("20: till a tick", x.pumpOf(1, 4), 1);
        x.ticks(1);
        Check.due("9: holds nothing", x.pumpOf(1, 4), 0);
    }

    private static void where() {
        NearNothing x = new NearNothing();
        Check.due("10: no room", x.in(0, 0, 9), -1);
        x.room(3, 0);
        Check.due("10: no gas", x.in(0, 3, 2), -1);
        Check.due("10: where 3", x.in(0, 0, 3), -2);
        Check.due("10: where -1", x.in(0, 0, -1), -2);
        x.gas(0, 0, 1, false);
        x.gas(0, 1, 1, false);
        x.gas(0, 2, 50, true);
        Check.due("10: push of all gases, no walls, cut", x.in(0, 2, 2), 66);
        Check.due("11: no pump", x.pumpOf(0, 9), -1);
        x.pump(0, 1, 1, 1, 0);
        Check.due("11: what 6", x.pumpOf(0, 6), -2);
        Check.due("11: what -1", x.pumpOf(0, -1), -2);
        Check.due("11: pump -1", x.pumpOf(-1, 0), -1);
        Check.due("12: no gas", x.all(3, 9), -1);
        Check.due("12: what 5", x.all(0, 5), -2);
        Check.due("12: what -1", x.all(0, -1), -2);
        Check.due("12: on walls", x.all(2, 3), 50);
        Check.due("12: in rooms", x.all(0, 2), 1);
        Check.due("42: nobody was refused", x.count(11), 5);
        Check.due("42: other whats were refused", x.count(12), 6);
    }

    /** What is told of the last room, its wall and its trap, counts for when, too. */
    private static void whenOfTheLast() {
        NearNothing x = new NearNothing();
        for (int k = 0; k < 5; k++) {
            x.room(1, 3);
        }
        x.gives(3, 5, 500);
        x.gas(4, 2, 1000, true);
        x.gas(4, 2, 100, false);
        for (int k = 0; k < 8; k++) {
            x.pump(k == 7 ? 4 : 0, 0, 0, 9, 40);
        }
        x.start(7, true);
        // 100 and 500 of the wall less 40 that the trap has room for.
        Check.due("13: not below 56000", x.when(4, 56000, 1), -9);
        Check.due("13: below 56001", x.when(4, 56001, 1), 1);
        x.ticks(1);
        Check.due("13: so it is", x.in(4, 0, 2), 56000);
        x.ticks(20);
        x.warmUp(7);
        int before = x.in(4, 0, 2);
        Check.due("13: the trap gives back", x.when(4, before + 1, 1), -9);
        Check.due("13: four grains", x.when(4, before + 401, 1), 22);
        Check.due("13: not more", x.when(4, before + 400, 1), -9);
        Check.due("13: nothing changed", x.pumpOf(7, 3), 40);
    }

    /** Nearly 6 million grains told and 15 million leaked into a room of size 1. */
    private static void greatPush() {
        NearNothing x = new NearNothing();
        x.room(1, 0);
        x.gives(0, 5, 500);
        for (int gas = 0; gas < 3; gas++) {
            for (int k = 0; k < 20; k++) {
                x.gas(0, gas, 99999, k % 2 == 0);
            }
            x.leak(0, gas, 999);
        }
        for (int k = 0; k < 22; k++) {
            x.ticks(200);
        }
        int less = x.in(0, 0, 2);
        Check.due("10: not yet the greatest", less, 100 * (2 * 3 * 999990 - 3 + 3 * 999 * 4400));
        for (int k = 0; k < 3; k++) {
            x.ticks(200);
        }
        Check.due("10: the greatest push", x.in(0, 0, 2), 2000000000);
        Check.due("10: more grains than that", x.in(0, 1, 0), 999990 + 999989 + 999 * 5000);
        Check.due("28: a great reading", x.reads(0, 0), 3 * (2 * 999990 - 1 + 4995000) / 10);
    }

    private static void when() {
        NearNothing x = new NearNothing();
        Check.due("13: no room", x.when(0, -1, 0), -1);
        x.room(1, 0);
        Check.due("13: mark below", x.when(0, -1, 1), -4);
        Check.due("13: most below", x.when(0, 1, 0), -4);
        Check.due("13: mark above", x.when(0, 1000000, 1), -6);
        Check.due("13: most above", x.when(0, 1, 301), -6);
        x.pump(0, 9, 0, 0, 0);
        x.start(0, true);
        x.gas(0, 0, 1000, false);
        Check.due("13: one tick on", x.when(0, 91001, 300), 1);
        Check.due("13: just at the mark is not below", x.when(0, 91000, 1), -9);
        Check.due("13: two ticks on", x.when(0, 91000, 2), 2);
        Check.due("13: below 0", x.when(0, 0, 300), -9);
        Check.due("13: nothing changed", x.count(0), 0);
        Check.due("13: nothing changed", x.in(0, 0, 0), 1000);
        for (int k = 0; k < 24; k++) {
            x.ticks(200);
        }
        x.ticks(199);
        Check.due("13: the last tick", x.when(0, 999999, 300), 5000);
        x.ticks(1);
        Check.due("13: none behind it", x.when(0, 999999, 300), -9);
    }
}
