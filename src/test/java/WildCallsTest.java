/**
 * Calls with wild numbers in every state: none throws, and what was refused changed nothing: a twin
 * that is not asked what was refused answers the same.
 */
public final class WildCallsTest {
    private static final int[] WILD = {Integer.MIN_VALUE, Integer.MIN_VALUE + 1, -2000000000, -100000,
        -256, -10, -9, -2, -1, 0, 1, 2, 3, 4, 5, 6, 7, 8, 9, 10, 12, 20, 21, 25, 30, 31, 32, 33, 40, 63, 64,
        99, 100, 255, 256, 300, 999, 5000, 9999, 10000, 99999, 999999, 2000000000,
        Integer.MAX_VALUE - 1, Integer.MAX_VALUE};
    private static final int CALLS = 42;
    /** With what fills an object and what asks for all of it, less than 512. */
    private static final int WILD_CALLS = 100;
    private static long seed = 5;

    public static void main(String[] args) {
        for (int run = 0; run < 1500; run++) {
            NearNothing x = new NearNothing();
            NearNothing twin = new NearNothing();
            if (run % 2 == 1) {
                fill(x);
                fill(twin);
            }
            int[] refusals = new int[8];
            for (int k = 0; k < WILD_CALLS; k++) {
                both(x, twin, refusals);
            }
            for (int number = 1; number <= 7; number++) {
                Check.due("refusals -" + number + " of run " + run, x.count(10 + number), refusals[number]);
                Check.due("refusals -" + number + " of the twin", twin.count(10 + number), 0);
            }
            boolean same = Furnished.whole(x).equals(Furnished.whole(twin));
            Check.due("what was refused changes nothing in run " + run, same ? 1 : 0, 1);
        }
        Check.end();
    }

    private static void both(NearNothing x, NearNothing twin, int[] refusals) {
        int which = draw(CALLS);
        long before = seed;
        long answer = call(x, which);
        if (answer < 0 && answer >= -7) {
            refusals[(int) -answer]++;
            return;
        }
        long after = seed;
        seed = before;
        Check.due("call " + which + " of the twin", call(twin, which), answer);
        seed = after;
    }

    private static int draw(int count) {
        seed = seed * 6364136223846793005L + 1442695040888963407L;
        return (int) ((seed >>> 33) % count);
    }

    private static int wild() {
        return draw(3) == 0 ? WILD[draw(WILD.length)] : draw(12);
    }

    private static boolean flag() {
        return draw(2) == 0;
    }

    private static void fill(NearNothing x) {
        for (int k = 0; k < 5; k++) {
            x.room(1 + 7 * k, k % 4);
            x.leak(k, k % 3, 999);
            x.gives(k % 4, 5, 500);
        }
        for (int k = 0; k < 12; k++) {
            x.pipe(k % 5, (k + 1 + k % 3) % 5, 9);
            x.valve(k, true);
        }
        for (int k = 0; k < 8; k++) {
            x.pump(k % 5, 9, k, 1, k % 2 * 500);
            x.start(k, k % 3 == 0);
        }
    }

    private static long call(NearNothing x, int which) {
        switch (which) {
            case 0: return x.room(wild(), wild());
            case 1: return x.warm(wild(), wild());
            case 2: return x.gas(wild(), wild(), wild(), flag());
            case 3: return x.gives(wild(), wild(), wild());
            case 4: return x.pipe(wild(), wild(), wild());
            case 5: return x.pump(wild(), wild(), wild(), wild(), wild());
            case 6: return x.leak(wild(), wild(), wild());
            case 7: return x.ticks(wild());
            case 8: return x.in(wild(), wild(), wild());
            case 9: return x.pumpOf(wild(), wild());
            case 10: return x.all(wild(), wild());
            case 11: return x.when(wild(), wild(), wild());
            case 12: return x.feed(wild(), seed * wild());
            case 13: return draw(2) == 0 ? x.rule() : x.feed(8, Check.bytes("P" + draw(10) + ":!r0>" + draw(9)));
            case 14: return x.unrule(wild());
            case 15: return x.forbids(wild(), flag());
            case 16: return x.valve(wild(), flag());
            case 17: return x.start(wild(), flag());
            case 18: return x.warmUp(wild());
            case 19: return x.undo();
            case 20: return x.redo();
            default: return more(x, which);
        }
    }

    private static long more(NearNothing x, int which) {
        switch (which) {
            case 21: return x.order(wild(), wild());
            case 22: return x.rest(wild(), wild(), wild());
            case 23: return x.square(wild(), wild(), flag());
            case 24: return x.walks(wild(), wild(), wild());
            case 25: return x.sees(wild(), wild(), wild());
            case 26: return x.reads(wild(), wild());
            case 27: return x.reading(wild(), wild());
            case 28: return x.trueGas(wild(), wild());
            case 29: return x.stage(wild(), wild(), wild(), wild(), wild());
            case 30: return x.restCold(wild());
            case 31: return x.load(wild(), wild());
            case 32: return x.late(wild(), wild());
            case 33: return x.spray(wild(), wild());
            case 34: return x.seen(wild(), flag());
            case 35: return draw(9) == 0 ? x.anew() : 0;
            case 36: return x.hunt(wild());
            case 37: return x.odds(wild(), wild(), wild(), wild(), wild());
            case 38: return x.offer(wild(), wild(), wild());
            case 39: return x.plan(wild(), wild());
            case 40: return counted(x, wild());
            default: return x.odds(30, wild(), wild(), wild(), 0);
        }
    }

    /** Of the twin other refusals are counted. */
    private static long counted(NearNothing x, int what) {
        return what >= 11 && what <= 17 ? 0 : x.count(what);
    }
}
