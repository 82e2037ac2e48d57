/** The edges that the document names in I and in promises 1 to 13, a test to each sentence. */
public final class EdgesOfRoomsTest {
    public static void main(String[] args) {
        nothingAtFirst();
        fiveThousandTicks();
        fiveRooms();
        sizes();
        stuffs();
        warmths();
        threeGases();
        emptyAtFirst();
        pushIsCut();
        greatestPush();
        given();
        givenIsCut();
        twelvePipes();
        widths();
        shutAtFirst();
        eachValveForItself();
        eachRoomForItself();
        flowIsCut();
        noMoreThanIsThere();
        whatCameInToo();
        byNumbers();
        firstRoomAhead();
        eightPumps();
        speeds();
        eachPumpForItself();
        offAtFirst();
        pumpingIsCut();
        pumpsByNumbers();
        limits();
        fullTrap();
        lastGrains();
        warmedIsOff();
        tenthRoundedUp();
        warmedNoMore();
        emptyOneWarmed();
        leaks();
        orderInATick();
        inAndOut();
        grainsTold();
        aboveTooFull();
        ticksAtOnce();
        whats();
        whenBelow();
        whenSoManyAtMost();
        whenMarkZero();
        whenFromNowOn();
        whenFirst();
        whenAboveTheTicks();
        whenNothingChanges();
        whenAsTicksWould();
        Check.end();
    }

    private static NearNothing rooms(int... sizes) {
        NearNothing x = new NearNothing();
        for (int size : sizes) {
            x.room(size, 0);
        }
        return x;
    }

    /** Promise 1: "TICK 0; nothing". */
    private static void nothingAtFirst() {
        NearNothing x = new NearNothing();
        Check.due("1: TICK", x.count(0), 0);
        Check.due("1: no ROOM", x.warm(0, 5), -1);
        Check.due("1: no PIPE", x.valve(0, false), -1);
        Check.due("1: no PUMP", x.start(0, false), -1);
        Check.due("1: no RULE", x.unrule(0), -1);
        Check.due("1: no ACT", x.undo(), -3);
        Check.due("1: none undone", x.redo(), -3);
        Check.due("1: no TEXT", x.count(8), 0);
        Check.due("1: no OFFER, no LEAK", x.plan(0, 1), 0);
        Check.due("1: no SPRAY, none SEEN", x.anew(), 0);
        Check.due("1: no grains", x.all(0, 0) + x.all(1, 1) + x.all(2, 2) + x.all(0, 3) + x.all(1, 4), 0);
    }

    /** "TICKS go on from 0 (5000 at most)". */
    private static void fiveThousandTicks() {
        NearNothing x = rooms(1);
        x.leak(0, 0, 1);
        for (int k = 1; k <= 24; k++) {
            Check.due("I: TICKS go on", x.ticks(200), 200 * k);
        }
        Check.due("I: 4999", x.ticks(199), 4999);
        Check.due("I: two more would be above 5000", x.ticks(2), -6);
        Check.due("I: so none passes", x.in(0, 0, 0), 4999);
        Check.due("I: 200 more would be, too", x.ticks(200), -6);
        Check.due("I: none below stays -4", x.ticks(0), -4);
        Check.due("I: 5000", x.ticks(1), 5000);
        Check.due("I: 5001", x.ticks(1), -6);
        Check.due("I: TICK stays", x.count(0), 5000);
        Check.due("I: the last one has passed", x.in(0, 0, 0), 5000);
    }

    /** "ROOMS have numbers from 0 on (5 at most)". */
    private static void fiveRooms() {
        NearNothing x = rooms();
        for (int k = 0; k < 5; k++) {
            Check.due("I: a ROOM", x.room(2, 1), k);
        }
        Check.due("I: a sixth", x.room(2, 1), -6);
        Check.due("I: five", x.count(1), 5);
        Check.due("I: the last one has grains", x.gas(4, 2, 3, false), 3);
        Check.due("I: and a PUSH", x.in(4, 0, 2), 150);
        Check.due("I: there is no sixth", x.gas(5, 2, 3, false), -1);
    }

    /** "SIZE (1 .. 99)". */
    private static void sizes() {
        NearNothing x = rooms();
        Check.due("I: SIZE 0", x.room(0, 0), -4);
        Check.due("I: SIZE 100", x.room(100, 0), -6);
        Check.due("I: SIZE 1", x.room(1, 0), 0);
        Check.due("I: SIZE 99", x.room(99, 0), 1);
        x.gas(0, 0, 99, false);
        x.gas(1, 0, 99, false);
        Check.due("I: PUSH at SIZE 1", x.in(0, 0, 2), 9900);
        Check.due("I: PUSH at SIZE 99", x.in(1, 0, 2), 100);
    }

    /** "WALL of a STUFF (0 .. 3)". */
    private static void stuffs() {
        NearNothing x = rooms();
        Check.due("I: STUFF -1", x.room(1, -1), -1);
        Check.due("I: STUFF 4", x.room(1, 4), -1);
        Check.due("I: GIVES of STUFF 4", x.gives(4, 5, 1), -1);
        for (int stuff = 0; stuff < 4; stuff++) {
            Check.due("I: STUFF " + (3 - stuff), x.room(1, 3 - stuff), stuff);
            x.gives(stuff, 5, 100 * stuff);
            x.gas(stuff, 0, 1000, true);
        }
        x.ticks(1);
        for (int stuff = 0; stuff < 4; stuff++) {
            Check.due("I: its WALL gives off by its STUFF", x.in(3 - stuff, 0, 0), 100 * stuff);
        }
    }

    /** "WARMTH (0 .. 9; 5 at first)". */
    private static void warmths() {
        NearNothing x = rooms(1);
        for (int v = 0; v < 10; v++) {
            x.gives(0, v, 10 * v + 10);
        }
        x.gas(0, 0, 1000, true);
        x.ticks(1);
        Check.due("I: gives off by WARMTH 5", x.in(0, 0, 0), 60);
        Check.due("3: 5 at first", x.warm(0, 0), 5);
        x.gas(0, 0, 60, true);
        x.ticks(1);
        Check.due("I: gives off by WARMTH 0", x.in(0, 0, 0), 70);
        Check.due("3: WARMTH -1", x.warm(0, -1), -4);
        Check.due("3: WARMTH 10", x.warm(0, 10), -6);
        Check.due("3: 0 was told", x.warm(0, 9), 0);
        x.gas(0, 0, 10, true);
        x.ticks(1);
        Check.due("I: gives off by WARMTH 9", x.in(0, 0, 0), 170);
        Check.due("3: 9 was told", x.warm(0, 9), 9);
    }

    /** "GASES 0 .. 2". */
    private static void threeGases() {
        NearNothing x = rooms(1);
        for (int gas = 0; gas < 3; gas++) {
            Check.due("I: GAS " + gas, x.gas(0, gas, gas + 1, false), gas + 1);
        }
        Check.due("I: GAS 3", x.gas(0, 3, 1, false), -1);
        Check.due("I: GAS -1", x.gas(0, -1, 1, false), -1);
        for (int gas = 0; gas < 3; gas++) {
            Check.due("I: each for itself", x.in(0, gas, 0), gas + 1);
            Check.due("I: told for itself", x.all(gas, 0), gas + 1);
        }
        Check.due("I: in no GAS 3", x.in(0, 3, 0), -1);
        Check.due("I: all of no GAS 3", x.all(3, 0), -1);
    }

    /** "of each GAS an amount (grains; 0 at first), on its WALL likewise". */
    private static void emptyAtFirst() {
        NearNothing x = rooms(1, 1, 1, 1, 1);
        for (int at = 0; at < 15; at++) {
            Check.due("I: 0 at first", x.in(at / 3, at % 3, 0), 0);
            Check.due("I: on its WALL likewise", x.in(at / 3, at % 3, 1), 0);
            Check.due("I: so no PUSH", x.in(at / 3, at % 3, 2), 0);
        }
    }

    /** "all grains in it times 100 by SIZE, cut". */
    private static void pushIsCut() {
        NearNothing x = rooms(3, 99);
        x.gas(0, 0, 1, false);
        Check.due("I: 100 by 3", x.in(0, 0, 2), 33);
        x.gas(0, 1, 1, false);
        Check.due("I: 200 by 3", x.in(0, 0, 2), 66);
        x.gas(0, 2, 1, false);
        Check.due("I: 300 by 3", x.in(0, 0, 2), 100);
        x.gas(0, 2, 5, true);
        Check.due("I: what is on the WALL does not push", x.in(0, 0, 2), 100);
        x.gas(1, 2, 1, false);
        Check.due("I: 100 by 99", x.in(1, 0, 2), 1);
    }

    /** "2000000000 at most": one grain below it, just there, and one grain more. */
    private static void greatestPush() {
        NearNothing x = rooms(1, 2);
        x.gives(0, 5, 500);
        for (int k = 0; k < 60; k++) {
            x.gas(0, k % 3, 99999, k < 30);
        }
        for (int gas = 0; gas < 3; gas++) {
            x.leak(0, gas, 999);
        }
        for (int k = 0; k < 23; k++) {
            x.ticks(200);
        }
        int missing = 19999999 - x.in(0, 0, 0) - x.in(0, 1, 0) - x.in(0, 2, 0);
        x.ticks(missing / 2997);
        missing = missing % 2997;
        for (int gas = 0; gas < 3; gas++) {
            x.leak(0, gas, missing / 3 + (gas < missing % 3 ? 1 : 0));
        }
        x.ticks(1);
        Check.due("I: 19999999 grains", x.in(0, 0, 2), 1999999900);
        leakOne(x);
        Check.due("I: 20000000 grains", x.in(0, 0, 2), 2000000000);
        leakOne(x);
        Check.due("I: 20000001 grains", x.in(0, 0, 2), 2000000000);
        Check.due("I: they are all there", x.in(0, 0, 0) + x.in(0, 1, 0) + x.in(0, 2, 0), 20000001);
        x.leak(0, 2, 999);
        x.ticks(200);
        Check.due("I: far more of them", x.in(0, 0, 2), 2000000000);
        Check.due("I: none of them is lost", x.all(0, 2) + x.all(1, 2) + x.all(2, 2), 20000001 + 200 * 1000);
    }

    private static void leakOne(NearNothing x) {
        x.leak(0, 0, 1);
        x.leak(0, 1, 0);
        x.leak(0, 2, 0);
        x.ticks(1);
    }

    /** "GIVES of a STUFF at a WARMTH: 0 .. 500 thousandths (told; 0 at first)". */
    private static void given() {
        NearNothing x = rooms(1);
        x.gas(0, 1, 1000, true);
        x.ticks(3);
        Check.due("I: 0 at first", x.in(0, 1, 1), 1000);
        for (int at = 0; at < 40; at++) {
            Check.due("5: it was 0", x.gives(at / 10, at % 10, 500), 0);
        }
        for (int at = 0; at < 40; at++) {
            Check.due("5: it was 500", x.gives(at / 10, at % 10, at), 500);
        }
        for (int at = 0; at < 40; at++) {
            Check.due("5: each for itself", x.gives(at / 10, at % 10, 500), at);
        }
        Check.due("5: 501", x.gives(0, 5, 501), -6);
        Check.due("5: -1", x.gives(0, 5, -1), -4);
        Check.due("5: no WARMTH 10", x.gives(0, 10, 1), -1);
        Check.due("5: no WARMTH -1", x.gives(0, -1, 1), -1);
        x.ticks(1);
        Check.due("I: 500 thousandths", x.in(0, 1, 0), 500);
    }

    /** "grains on it times GIVES by 1000, cut". */
    private static void givenIsCut() {
        NearNothing x = rooms(1, 1, 1);
        x.gives(0, 5, 1);
        x.gas(0, 0, 999, true);
        x.gas(1, 0, 1000, true);
        x.gas(2, 0, 1999, true);
        x.ticks(1);
        Check.due("I: 999 thousandths of a grain", x.in(0, 0, 0), 0);
        Check.due("I: a grain", x.in(1, 0, 0), 1);
        Check.due("I: 1999 thousandths", x.in(2, 0, 0), 1);
        Check.due("I: and off the WALL", x.in(2, 0, 1), 1998);
    }

    /** "PIPES have numbers from 0 on (12 at most)". */
    private static void twelvePipes() {
        NearNothing x = rooms(1, 1);
        for (int k = 0; k < 12; k++) {
            Check.due("I: a PIPE", x.pipe(0, 1, 1), k);
        }
        Check.due("I: a thirteenth", x.pipe(0, 1, 1), -6);
        Check.due("I: twelve", x.count(2), 12);
        Check.due("I: there is no thirteenth", x.valve(12, true), -1);
        Check.due("I: the twelfth opens", x.valve(11, true), 1);
        x.gas(0, 0, 100, false);
        x.ticks(1);
        Check.due("I: and lets through", x.in(1, 0, 0), 1);
    }

    /** "WIDTH (1 .. 9)". */
    private static void widths() {
        NearNothing x = rooms(1, 1);
        Check.due("I: WIDTH 0", x.pipe(0, 1, 0), -4);
        Check.due("I: WIDTH 10", x.pipe(0, 1, 10), -6);
        Check.due("I: WIDTH 1", x.pipe(0, 1, 1), 0);
        Check.due("I: WIDTH 9", x.pipe(0, 1, 9), 1);
        x.valve(0, true);
        x.gas(0, 0, 1000, false);
        x.ticks(1);
        Check.due("I: a hundredth", x.in(1, 0, 0), 10);
        x.valve(0, false);
        x.valve(1, true);
        x.gas(0, 0, 10, false);
        x.ticks(1);
        Check.due("I: nine hundredths", x.in(0, 0, 0), 1000 - 90);
    }

    /** "a VALVE (shut at first)". */
    private static void shutAtFirst() {
        NearNothing x = rooms(1, 1);
        x.pipe(0, 1, 9);
        x.gas(0, 0, 1000, false);
        x.ticks(1);
        Check.due("I: shut, so nothing goes", x.in(1, 0, 0), 0);
        Check.due("I: none is open", x.count(3), 0);
        Check.due("18: it was so", x.valve(0, false), 0);
        Check.due("18: it was not open", x.valve(0, true), 1);
    }

    private static void eachValveForItself() {
        for (int k = 0; k < 12; k++) {
            NearNothing x = rooms(1, 1);
            for (int pipe = 0; pipe < 12; pipe++) {
                x.pipe(0, 1, pipe == k ? 9 : 1);
            }
            Check.due("18: shut", x.valve(k, false), 0);
            Check.due("18: opened", x.valve(k, true), 1);
            Check.due("18: open", x.valve(k, true), 0);
            x.gas(0, 0, 100, false);
            x.ticks(1);
            Check.due("I: through PIPE " + k, x.in(1, 0, 0), 9);
            Check.due("18: shut again", x.valve(k, false), 1);
            Check.due("42: none is open", x.count(3), 0);
        }
    }

    /** From each of the five ROOMS to each other one, of each GAS. */
    private static void eachRoomForItself() {
        for (int at = 0; at < 25; at++) {
            int from = at / 5;
            int to = at % 5;
            if (from != to) {
                NearNothing x = rooms(5, 4, 3, 2, 1);
                x.pipe(Math.min(from, to), Math.max(from, to), 9);
                x.valve(0, true);
                for (int gas = 0; gas < 3; gas++) {
                    x.gas(from, gas, 1000 + 100 * gas, false);
                }
                x.ticks(1);
                for (int gas = 0; gas < 3; gas++) {
                    int due = (1000 + 100 * gas) * 9 / (100 * (5 - from));
                    Check.due("I: from " + from + " to " + to + " of " + gas, x.in(to, gas, 0), due);
                }
            }
        }
    }

    /** "grains times WIDTH by (100 times SIZE), cut". */
    private static void flowIsCut() {
        NearNothing x = rooms(1, 2, 99);
        x.pipe(0, 1, 1);
        x.pipe(1, 2, 1);
        x.valve(0, true);
        x.gas(0, 0, 99, false);
        x.gas(0, 1, 100, false);
        x.gas(0, 2, 199, false);
        x.ticks(1);
        Check.due("I: 99 hundredths", x.in(1, 0, 0), 0);
        Check.due("I: a grain", x.in(1, 1, 0), 1);
        Check.due("I: 199 hundredths", x.in(1, 2, 0), 1);
        x.valve(0, false);
        x.valve(1, true);
        x.gas(1, 0, 199, false);
        x.gas(1, 1, 199, false);
        x.gas(2, 2, 9899, false);
        x.ticks(1);
        Check.due("I: 199 by 200", x.in(2, 0, 0), 0);
        Check.due("I: 200 by 200", x.in(2, 1, 0), 1);
        Check.due("I: 9899 by 9900, none comes back", x.in(1, 2, 0), 1);
        x.gas(2, 2, 1, false);
        x.ticks(1);
        Check.due("I: 9900 by 9900", x.in(1, 2, 0), 2);
    }

    /** Twelve PIPES of WIDTH 9 at a ROOM of SIZE 1: "no more than is there at that moment". */
    private static void noMoreThanIsThere() {
        NearNothing x = pipes(11, 0, 2);
        x.gas(0, 0, 100, false);
        x.ticks(1);
        Check.due("I: eleven have their nine", x.in(1, 0, 0), 99);
        Check.due("I: the twelfth has what is left", x.in(2, 0, 0), 1);
        Check.due("I: nothing is there", x.in(0, 0, 0), 0);
        x.gas(0, 0, 99, false);
        x.ticks(1);
        Check.due("I: of 99, eight each", x.in(0, 0, 0), 99 - 96);
    }

    /** "(what came in too)": what the other ROOM gave ahead may go out again. */
    private static void whatCameInToo() {
        NearNothing x = pipes(11, 0, 2);
        x.gas(0, 0, 100, false);
        x.gas(1, 0, 10000, false);
        x.ticks(1);
        Check.due("I: eleven and 108 out, 99 in", x.in(0, 0, 0), 100 - 108 + 11 * (10000 * 9 / 9900));
        Check.due("I: the twelfth has its nine", x.in(2, 0, 0), 9);
    }

    /** "as PIPES are gone through by numbers": the last one is the one that lacks. */
    private static void byNumbers() {
        NearNothing x = rooms(1, 99, 99);
        for (int k = 0; k < 12; k++) {
            x.pipe(0, k == 0 ? 2 : 1, 9);
        }
        for (int k = 0; k < 12; k++) {
            x.valve(11 - k, true);
        }
        x.gas(0, 0, 100, false);
        x.ticks(1);
        Check.due("I: the first has its nine", x.in(2, 0, 0), 9);
        Check.due("I: the others what is left", x.in(1, 0, 0), 91);
    }

    /** "each from its first ROOM to the second one ahead". */
    private static void firstRoomAhead() {
        for (int from = 0; from < 2; from++) {
            NearNothing x = pipes(11, from, 3);
            x.gas(0, 0, 100, false);
            x.gas(3, 0, 100, false);
            x.ticks(1);
            Check.due("I: from " + from, x.in(0, 0, 0), from == 0 ? 9 : 1);
            Check.due("I: the other of " + from, x.in(3, 0, 0), from == 0 ? 92 : 100);
        }
    }

    /** So many from 0 to 1, and one more with another ROOM: from 0 to it, or (1) from it to 0. */
    private static NearNothing pipes(int count, int turned, int other) {
        NearNothing x = rooms(1, 99, 99, 1);
        for (int k = 0; k < count; k++) {
            x.pipe(0, 1, 9);
            x.valve(k, true);
        }
        x.pipe(turned == 0 ? 0 : other, turned == 0 ? other : 0, 9);
        x.valve(count, true);
        return x;
    }

    /** "PUMPS have numbers from 0 on (8 at most)". */
    private static void eightPumps() {
        NearNothing x = rooms(1);
        for (int k = 0; k < 8; k++) {
            Check.due("I: a PUMP", x.pump(0, 1, 1, 1, 0), k);
        }
        Check.due("I: a ninth", x.pump(0, 1, 1, 1, 0), -6);
        Check.due("I: eight", x.count(4), 8);
        Check.due("I: there is no ninth", x.start(8, true), -1);
        Check.due("I: the eighth starts", x.start(7, true), 1);
        x.gas(0, 0, 100, false);
        x.ticks(1);
        Check.due("I: and takes", x.pumpOf(7, 1), 1);
    }

    /** "SPEED of each GAS (0 .. 9)". */
    private static void speeds() {
        NearNothing x = rooms(1);
        for (int gas = 0; gas < 3; gas++) {
            int[] s = {1, 1, 1};
            s[gas] = -1;
            Check.due("I: SPEED -1 of " + gas, x.pump(0, s[0], s[1], s[2], 0), -4);
            s[gas] = 10;
            Check.due("I: SPEED 10 of " + gas, x.pump(0, s[0], s[1], s[2], 0), -6);
            x.gas(0, gas, 1000, false);
        }
        Check.due("I: SPEEDS 0, 9 and 1", x.pump(0, 0, 9, 1, 0), 0);
        x.start(0, true);
        x.ticks(1);
        Check.due("I: SPEED 0 takes none", x.pumpOf(0, 1), 0);
        Check.due("I: SPEED 9 takes nine hundredths", x.pumpOf(0, 2), 90);
        Check.due("I: SPEED 1 takes a hundredth", x.pumpOf(0, 3), 10);
    }

    /** All eight PUMPS, each with SPEEDS, a LIMIT and a ROOM of its own. */
    private static void eachPumpForItself() {
        NearNothing x = rooms(1, 1, 1, 1, 1);
        for (int k = 0; k < 8; k++) {
            x.pump(k % 5, k % 4, k + 1, 9 - k, k % 2 == 0 ? 0 : 6 * k);
            Check.due("19: it was not on", x.start(k, true), 1);
        }
        for (int at = 0; at < 15; at++) {
            x.gas(at / 3, at % 3, 10000, false);
        }
        x.ticks(1);
        int[][] due = {{0, 100, 900}, {6, 0, 0}, {200, 300, 700}, {18, 0, 0}, {0, 500, 500}, {30, 0, 0},
            {199, 700, 300}, {42, 0, 0}};
        for (int at = 0; at < 24; at++) {
            Check.due("I: PUMP " + at / 3 + " of GAS " + at % 3, x.pumpOf(at / 3, 1 + at % 3), due[at / 3][at % 3]);
        }
        Check.due("20: PUMP 7 is WARMED", x.warmUp(7), 1);
        Check.due("20: it was so", x.warmUp(7), 0);
        Check.due("11: PUMP 7 is WARMED", x.pumpOf(7, 4), 1);
        Check.due("11: PUMP 5 is not", x.pumpOf(5, 4), 0);
        int there = x.in(2, 0, 0);
        int held = x.pumpOf(7, 1);
        x.start(2, false);
        x.ticks(1);
        Check.due("I: into the ROOM of PUMP 7", x.in(2, 0, 0), there + (held + 9) / 10);
        x.ticks(60);
        Check.due("I: PUMP 7 is empty", x.pumpOf(7, 1) + x.pumpOf(7, 2) + x.pumpOf(7, 3), 0);
        Check.due("I: so it is WARMED no more", x.pumpOf(7, 4), 0);
        Check.due("19: and starts", x.start(7, true), 1);
    }

    /** "off at first". */
    private static void offAtFirst() {
        NearNothing x = rooms(1);
        x.pump(0, 9, 9, 9, 0);
        x.gas(0, 0, 1000, false);
        x.ticks(1);
        Check.due("I: off, so it takes none", x.pumpOf(0, 1), 0);
        Check.due("11: not on", x.pumpOf(0, 0), 0);
        Check.due("42: none is on", x.count(5), 0);
        Check.due("19: it was so", x.start(0, false), 0);
        Check.due("19: it was not on", x.start(0, true), 1);
    }

    /** "grains (as there are then) times SPEED by (100 times SIZE), cut". */
    private static void pumpingIsCut() {
        NearNothing x = rooms(2);
        x.pump(0, 1, 1, 1, 0);
        x.start(0, true);
        x.gas(0, 0, 199, false);
        x.gas(0, 1, 200, false);
        x.gas(0, 2, 399, false);
        x.ticks(1);
        Check.due("I: 199 by 200", x.pumpOf(0, 1), 0);
        Check.due("I: 200 by 200", x.pumpOf(0, 2), 1);
        Check.due("I: 399 by 200", x.pumpOf(0, 3), 1);
    }

    /** "PUMPS that are on, by numbers": the next takes of what is left. */
    private static void pumpsByNumbers() {
        NearNothing x = rooms(1);
        x.pump(0, 1, 0, 0, 0);
        x.pump(0, 1, 0, 0, 0);
        x.pump(0, 1, 0, 0, 0);
        x.start(2, true);
        x.start(0, true);
        x.gas(0, 0, 100, false);
        x.ticks(1);
        Check.due("I: the first", x.pumpOf(0, 1), 1);
        Check.due("I: none of an off one", x.pumpOf(1, 1), 0);
        Check.due("I: none of 99", x.pumpOf(2, 1), 0);
    }

    /** "a TRAP is a PUMP with a LIMIT (1 .. 99999 grains)", promise 7 "limit 0: none". */
    private static void limits() {
        NearNothing x = rooms(1);
        Check.due("7: LIMIT -1", x.pump(0, 1, 1, 1, -1), -4);
        Check.due("7: LIMIT 100000", x.pump(0, 1, 1, 1, 100000), -6);
        Check.due("7: LIMIT 0", x.pump(0, 9, 9, 9, 0), 0);
        Check.due("7: LIMIT 1", x.pump(0, 9, 9, 9, 1), 1);
        Check.due("7: LIMIT 99999", x.pump(0, 9, 9, 9, 99999), 2);
        Check.due("11: LIMIT of no TRAP", x.pumpOf(0, 5), 0);
        Check.due("11: LIMIT 1", x.pumpOf(1, 5), 1);
        Check.due("11: LIMIT 99999", x.pumpOf(2, 5), 99999);
        Check.due("20: no TRAP", x.warmUp(0), -3);
        Check.due("20: a TRAP", x.warmUp(1), 1);
        Check.due("20: a TRAP", x.warmUp(2), 1);
    }

    /** "it holds what it took; a full one takes nothing". */
    private static void fullTrap() {
        NearNothing x = rooms(1);
        x.pump(0, 9, 9, 9, 1);
        x.start(0, true);
        x.gas(0, 2, 100, false);
        x.ticks(1);
        Check.due("I: full with one", x.pumpOf(0, 3), 1);
        x.gas(0, 0, 100, false);
        x.ticks(5);
        Check.due("I: takes nothing", x.in(0, 2, 0), 99);
        Check.due("I: of no GAS", x.in(0, 0, 0), 100);
        Check.due("I: it is on still", x.pumpOf(0, 0), 1);
        Check.due("12: in TRAPS, though the LIMIT is 1", x.all(2, 4), 1);
        Check.due("12: not OUT", x.all(2, 1), 0);
        NearNothing y = rooms(1);
        y.pump(0, 9, 9, 9, 99999);
        y.start(0, true);
        for (int k = 0; k < 10; k++) {
            y.gas(0, 0, 99999, false);
        }
        y.ticks(2);
        Check.due("I: 89999 and 9 hundredths of the rest, cut at the LIMIT", y.pumpOf(0, 1), 99999);
        Check.due("I: the rest stays", y.in(0, 0, 0), 999990 - 99999);
    }

    /** "(the last grains as far as there is room)", GAS by GAS. */
    private static void lastGrains() {
        NearNothing x = rooms(1);
        x.pump(0, 9, 9, 9, 20);
        x.start(0, true);
        for (int gas = 0; gas < 3; gas++) {
            x.gas(0, gas, 100, false);
        }
        x.ticks(1);
        Check.due("I: nine of GAS 0", x.pumpOf(0, 1), 9);
        Check.due("I: nine of GAS 1", x.pumpOf(0, 2), 9);
        Check.due("I: two of GAS 2", x.pumpOf(0, 3), 2);
        Check.due("I: the others stay", x.in(0, 2, 0), 98);
        Check.due("12: in TRAPS", x.all(0, 4) + x.all(1, 4) + x.all(2, 4), 20);
    }

    /** "WARMED it is off and gives back". */
    private static void warmedIsOff() {
        NearNothing x = rooms(1);
        x.pump(0, 9, 0, 0, 500);
        x.start(0, true);
        x.gas(0, 0, 1000, false);
        x.ticks(1);
        x.warmUp(0);
        Check.due("20: off", x.pumpOf(0, 0), 0);
        Check.due("20: none is on", x.count(5), 0);
        Check.due("11: WARMED", x.pumpOf(0, 4), 1);
        x.ticks(1);
        Check.due("I: gives back, takes none", x.in(0, 0, 0), 910 + 9);
        Check.due("I: holds the others", x.pumpOf(0, 1), 81);
        Check.due("I: WARMED still", x.pumpOf(0, 4), 1);
    }

    /** "of each GAS a tenth (rounded up) of what it holds comes back into its ROOM". */
    private static void tenthRoundedUp() {
        NearNothing x = rooms(1);
        x.pump(0, 1, 1, 1, 99);
        x.start(0, true);
        x.gas(0, 0, 1000, false);
        x.gas(0, 1, 1100, false);
        x.gas(0, 2, 100, false);
        x.ticks(1);
        x.warmUp(0);
        x.ticks(1);
        Check.due("I: a tenth of 10", x.pumpOf(0, 1), 9);
        Check.due("I: a tenth of 11", x.pumpOf(0, 2), 9);
        Check.due("I: a tenth of 1", x.pumpOf(0, 3), 0);
        x.ticks(1);
        Check.due("I: a tenth of 9", x.pumpOf(0, 1), 8);
        Check.due("I: a tenth of none", x.in(0, 2, 0), 100);
        Check.due("I: into its ROOM", x.in(0, 0, 0), 992);
    }

    /** "once it holds nothing it is WARMED no more": of no GAS, and not before. */
    private static void warmedNoMore() {
        NearNothing x = rooms(1);
        x.pump(0, 1, 1, 1, 99);
        x.start(0, true);
        x.gas(0, 0, 100, false);
        x.gas(0, 2, 200, false);
        x.ticks(1);
        x.warmUp(0);
        x.ticks(1);
        Check.due("I: it holds one yet", x.pumpOf(0, 3), 1);
        Check.due("I: so it is WARMED", x.pumpOf(0, 4), 1);
        Check.due("19: WARMED (to start it)", x.start(0, true), -3);
        x.ticks(1);
        Check.due("I: it holds nothing", x.pumpOf(0, 3), 0);
        Check.due("I: WARMED no more", x.pumpOf(0, 4), 0);
        Check.due("I: off still", x.pumpOf(0, 0), 0);
        Check.due("19: it may be started", x.start(0, true), 1);
    }

    private static void emptyOneWarmed() {
        NearNothing x = rooms(1);
        x.pump(0, 1, 1, 1, 1);
        Check.due("20: an empty TRAP", x.warmUp(0), 1);
        Check.due("20: it was so", x.warmUp(0), 0);
        x.ticks(1);
        Check.due("I: WARMED no more behind a TICK", x.pumpOf(0, 4), 0);
        Check.due("20: once more", x.warmUp(0), 1);
    }

    /** "LEAKS of a ROOM and GAS: 0 .. 999 grains a TICK (told; 0 at first)". */
    private static void leaks() {
        NearNothing x = rooms(1, 1, 1, 1, 1);
        x.ticks(1);
        Check.due("I: 0 at first", x.all(0, 0) + x.all(1, 0) + x.all(2, 0), 0);
        for (int at = 0; at < 15; at++) {
            Check.due("8: it was 0", x.leak(at / 3, at % 3, 985 + at), 0);
        }
        x.ticks(1);
        for (int at = 0; at < 15; at++) {
            Check.due("I: each for itself", x.in(at / 3, at % 3, 0), 985 + at);
            Check.due("8: it was", x.leak(at / 3, at % 3, 0), 985 + at);
        }
        Check.due("8: 1000", x.leak(4, 2, 1000), -6);
        Check.due("8: -1", x.leak(4, 2, -1), -4);
        x.ticks(1);
        Check.due("I: no more", x.in(4, 2, 0), 999);
    }

    /** "1 WALLS .. 2 LEAKS .. 3 PIPES .. 4 PUMPS .. 5 TRAPS": each meets what the ones before made. */
    private static void orderInATick() {
        NearNothing x = rooms(1, 1);
        x.gives(0, 5, 500);
        x.pipe(0, 1, 9);
        x.valve(0, true);
        x.pump(1, 9, 9, 9, 0);
        x.start(0, true);
        x.gas(0, 0, 20000, true);
        x.leak(0, 1, 200);
        x.ticks(1);
        Check.due("I: off the WALL, through the PIPE, into the PUMP", x.pumpOf(0, 1), 81);
        Check.due("I: the rest of it", x.in(1, 0, 0), 900 - 81);
        Check.due("I: leaked, through the PIPE, cut at the PUMP", x.pumpOf(0, 2), 1);
        NearNothing y = rooms(1, 1);
        y.pipe(0, 1, 9);
        y.valve(0, true);
        y.pump(0, 9, 0, 0, 9000);
        y.pump(0, 9, 0, 0, 0);
        y.gas(0, 0, 99999, false);
        y.start(0, true);
        y.ticks(1);
        int before = y.in(0, 0, 0) + y.in(1, 0, 0);
        y.warmUp(0);
        y.valve(0, false);
        y.start(1, true);
        int there = y.in(0, 0, 0);
        int held = y.pumpOf(0, 1);
        y.ticks(1);
        Check.due("I: PUMPS ahead of what TRAPS give back", y.pumpOf(1, 1), there * 9 / 100);
        Check.due("I: the TRAP behind them", y.in(0, 0, 0), there - there * 9 / 100 + (held + 9) / 10);
        Check.due("I: nothing is lost", before + held, 99999);
    }

    /** "TOLD grains, LEAKS are IN; what PUMPS (no TRAPS) took is OUT". */
    private static void inAndOut() {
        NearNothing x = rooms(1);
        x.pump(0, 9, 0, 0, 0);
        x.pump(0, 9, 0, 0, 50);
        x.start(0, true);
        x.start(1, true);
        x.gas(0, 0, 1000, false);
        x.gas(0, 0, 30, true);
        x.leak(0, 0, 70);
        x.ticks(1);
        Check.due("12: IN", x.all(0, 0), 1100);
        Check.due("12: OUT", x.all(0, 1), 96);
        Check.due("12: in TRAPS", x.all(0, 4), 50);
        Check.due("12: in ROOMS", x.all(0, 2), 1070 - 96 - 50);
        Check.due("12: on WALLS", x.all(0, 3), 30);
        x.warmUp(1);
        x.start(0, false);
        x.leak(0, 0, 0);
        x.ticks(1);
        Check.due("12: what comes back is not IN again", x.all(0, 0), 1100);
        Check.due("12: nor is it OUT", x.all(0, 1), 96);
        Check.due("12: in TRAPS less a tenth", x.all(0, 4), 45);
        Check.due("12: of another GAS none", x.all(1, 0) + x.all(1, 1) + x.all(1, 2) + x.all(1, 4), 0);
    }

    /** Promise 4: "Grains (1 .. 99999)". */
    private static void grainsTold() {
        NearNothing x = rooms(1);
        Check.due("4: 0", x.gas(0, 0, 0, false), -4);
        Check.due("4: -1", x.gas(0, 0, -1, true), -4);
        Check.due("4: 100000", x.gas(0, 0, 100000, false), -6);
        Check.due("4: 100000 on the WALL", x.gas(0, 0, 100000, true), -6);
        Check.due("4: 1", x.gas(0, 0, 1, false), 1);
        Check.due("4: 99999", x.gas(0, 0, 99999, false), 100000);
        Check.due("4: 99999 on the WALL", x.gas(0, 0, 99999, true), 99999);
        Check.due("4: 1 on the WALL", x.gas(0, 0, 1, true), 100000);
    }

    /** Promise 4: "-6 (above 999999, too)", in the ROOM and on its WALL, each for itself. */
    private static void aboveTooFull() {
        for (int side = 0; side < 2; side++) {
            boolean wall = side == 1;
            NearNothing x = rooms(1, 1);
            for (int k = 0; k < 10; k++) {
                x.gas(0, 1, 99999, wall);
            }
            Check.due("4: 1000000", x.gas(0, 1, 10, wall), -6);
            Check.due("4: far above", x.gas(0, 1, 99999, wall), -6);
            Check.due("4: the other side", x.gas(0, 1, 10, !wall), 10);
            Check.due("4: another GAS", x.gas(0, 0, 99999, wall), 99999);
            Check.due("4: another ROOM", x.gas(1, 1, 99999, wall), 99999);
            Check.due("4: 999999", x.gas(0, 1, 9, wall), 999999);
            Check.due("4: one more", x.gas(0, 1, 1, wall), -6);
            Check.due("4: below stays -4", x.gas(0, 1, 0, wall), -4);
            Check.due("4: IN", x.all(1, 0), 999999 + 10 + 99999);
        }
        NearNothing y = rooms(1);
        for (int k = 0; k < 11; k++) {
            y.gas(0, 0, k < 10 ? 99999 : 9, false);
        }
        y.leak(0, 0, 1);
        y.ticks(1);
        Check.due("8: LEAKS come in above it", y.in(0, 0, 0), 1000000);
        Check.due("4: above it already", y.gas(0, 0, 1, false), -6);
    }

    /** Promise 9: "n (1 .. 200) TICKS pass". */
    private static void ticksAtOnce() {
        NearNothing x = rooms(1);
        x.leak(0, 0, 1);
        Check.due("9: 0", x.ticks(0), -4);
        Check.due("9: -1", x.ticks(-1), -4);
        Check.due("9: 201", x.ticks(201), -6);
        Check.due("9: none passed", x.in(0, 0, 0) + x.count(0), 0);
        Check.due("9: 1", x.ticks(1), 1);
        Check.due("9: 200", x.ticks(200), 201);
        Check.due("9: so many passed", x.in(0, 0, 0), 201);
    }

    /** Promises 10 to 12: each where and what at its ends. */
    private static void whats() {
        NearNothing x = rooms(1);
        x.pump(0, 1, 1, 1, 7);
        x.gas(0, 0, 4, false);
        x.gas(0, 0, 5, true);
        Check.due("10: where -1", x.in(0, 0, -1), -2);
        Check.due("10: where 0", x.in(0, 0, 0), 4);
        Check.due("10: where 1", x.in(0, 0, 1), 5);
        Check.due("10: where 2", x.in(0, 0, 2), 400);
        Check.due("10: where 3", x.in(0, 0, 3), -2);
        Check.due("11: what -1", x.pumpOf(0, -1), -2);
        Check.due("11: what 0", x.pumpOf(0, 0), 0);
        Check.due("11: what 5", x.pumpOf(0, 5), 7);
        Check.due("11: what 6", x.pumpOf(0, 6), -2);
        Check.due("12: what -1", x.all(0, -1), -2);
        Check.due("12: what 0", x.all(0, 0), 9);
        Check.due("12: what 4", x.all(0, 4), 0);
        Check.due("12: what 5", x.all(0, 5), -2);
    }

    private static NearNothing pumped(int grains) {
        NearNothing x = rooms(1);
        x.pump(0, 9, 0, 0, 0);
        x.start(0, true);
        x.gas(0, 0, grains, false);
        return x;
    }

    /** Promise 13: "behind which PUSH of a ROOM would be below a mark". */
    private static void whenBelow() {
        NearNothing x = pumped(1000);
        Check.due("13: just at the mark", x.when(0, 91000, 1), -9);
        Check.due("13: below it", x.when(0, 91001, 1), 1);
        Check.due("13: the greatest mark", x.when(0, 999999, 1), 1);
        Check.due("13: mark 1000000", x.when(0, 1000000, 1), -6);
        Check.due("13: mark -1", x.when(0, -1, 1), -4);
    }

    /** "(so many at most, 1 .. 300)". */
    private static void whenSoManyAtMost() {
        NearNothing x = pumped(99999);
        int low = x.when(0, 10000, 300);
        Check.due("13: in so many", x.when(0, 10000, low), low);
        Check.due("13: in one less", x.when(0, 10000, low - 1), -9);
        Check.due("13: 0", x.when(0, 10000, 0), -4);
        Check.due("13: 301", x.when(0, 10000, 301), -6);
        NearNothing y = slowlyPumped();
        y.ticks(150);
        y.ticks(150);
        int mark = y.in(0, 0, 2) + 1;
        NearNothing z = slowlyPumped();
        Check.due("13: the 300th", z.when(0, mark, 300), 300);
        Check.due("13: not in 299", z.when(0, mark, 299), -9);
        Check.due("13: a 301st is not looked at", z.when(0, mark - 1, 300), -9);
        z.ticks(1);
        Check.due("13: from now on", z.when(0, mark - 1, 300), 301);
    }

    private static NearNothing slowlyPumped() {
        NearNothing x = rooms(99);
        x.pump(0, 1, 0, 0, 0);
        x.start(0, true);
        x.gas(0, 0, 99999, false);
        return x;
    }

    /** "(mark 0 .. 999999)": below 0 is no PUSH, not even of an empty ROOM. */
    private static void whenMarkZero() {
        NearNothing x = rooms(1);
        Check.due("13: mark 0", x.when(0, 0, 300), -9);
        Check.due("13: mark 1", x.when(0, 1, 300), 1);
    }

    /** "from now on": what was before the next TICK does not count. */
    private static void whenFromNowOn() {
        NearNothing x = rooms(1);
        x.leak(0, 0, 10);
        Check.due("13: below now, but behind no TICK", x.when(0, 1000, 300), -9);
        Check.due("13: behind the next one", x.when(0, 1001, 300), 1);
        x.ticks(7);
        Check.due("13: TICKS go on", x.when(0, 8001, 300), 8);
    }

    /** "The first TICK": of those behind which it is below, though it rises between. */
    private static void whenFirst() {
        NearNothing x = rooms(1, 1);
        x.gas(0, 0, 1000, false);
        x.pump(0, 9, 0, 0, 90);
        x.start(0, true);
        x.leak(0, 0, 20);
        Check.due("13: the first, not the last", x.when(0, 94000, 300), 1);
        x.ticks(2);
        Check.due("13: above it then", x.in(0, 0, 2), 95000);
        Check.due("13: and never below again", x.when(0, 94000, 300), -9);
    }

    /** "-9 none (TICKS above 5000 are not looked at". */
    private static void whenAboveTheTicks() {
        NearNothing x = pumped(20000);
        x.start(0, false);
        for (int k = 0; k < 24; k++) {
            x.ticks(200);
        }
        x.ticks(190);
        x.start(0, true);
        int left = 20000;
        for (int k = 0; k < 10; k++) {
            left -= left * 9 / 100;
        }
        Check.due("13: TICK 5000 is looked at", x.when(0, left * 100 + 1, 300), 5000);
        Check.due("13: TICK 5001 is not", x.when(0, left * 100, 300), -9);
        x.ticks(10);
        Check.due("13: so it is at TICK 5000", x.in(0, 0, 2), left * 100);
        Check.due("13: no TICK is left", x.when(0, 999999, 300), -9);
    }

    /** "nothing changes)". */
    private static void whenNothingChanges() {
        NearNothing x = Furnished.make();
        NearNothing y = Furnished.make();
        Check.due("13: when", x.when(2, 999999, 300), 4);
        x.when(0, 0, 300);
        x.when(1, 7, 300);
        Check.due("13: nothing changes", Furnished.whole(x).equals(Furnished.whole(y)) ? 1 : 0, 1);
    }

    /** "would be .. if nothing is done": by all that passes in TICKS, of each ROOM. */
    private static void whenAsTicksWould() {
        for (int mark = 1000; mark <= 40000; mark += 3000) {
            for (int room = 0; room < 5; room++) {
                NearNothing x = busy();
                int due = -9;
                int when = x.when(room, mark, 40);
                for (int k = 1; k <= 40 && due == -9; k++) {
                    x.ticks(1);
                    due = x.in(room, 0, 2) < mark ? 25 + k : -9;
                }
                Check.due("13: ROOM " + room + " below " + mark, when, due);
            }
        }
    }

    /** Walls that give off, leaks, pumps that take, a trap that is full soon, one that gives back. */
    private static NearNothing busy() {
        NearNothing x = rooms(1, 2, 3, 4, 5);
        x.gives(0, 5, 30);
        for (int k = 0; k < 5; k++) {
            x.gas(k, k % 3, 600, true);
            x.gas(k, (k + 1) % 3, 900, false);
            x.leak(k, (k + 2) % 3, k);
            x.pipe(k, (k + 1) % 5, 2);
            x.valve(k, k != 2);
            x.pump(k, 9, 8, 7, k < 3 ? 0 : 300 + k);
            x.start(k, true);
        }
        x.pump(2, 9, 9, 9, 200);
        x.pump(0, 9, 9, 9, 500);
        x.pump(1, 9, 9, 9, 700);
        x.start(6, true);
        x.start(7, true);
        x.ticks(25);
        x.warmUp(4);
        x.warmUp(7);
        x.warm(1, 6);
        return x;
    }
}
