import java.util.Arrays;
import java.util.List;

/**
 * REFUSALS: "the call answers the number, the first that fits in the order in which it tells them;
 * nothing changes but how many there were". Of each call every argument is tried at its least and
 * greatest, just beyond both, and at the ends of int, alone and together with the others.
 */
public final class RefusalsTest {
    private interface Call {
        long on(NearNothing x, int[] a);
    }

    /** What an argument's values are: from least to greatest, refused with these numbers beyond. */
    private static final class Argument {
        private final int[] values;
        private final int least;
        private final int greatest;
        private final int under;
        private final int over;

        private Argument(int least, int greatest, int under, int over) {
            this.least = least;
            this.greatest = greatest;
            this.under = under;
            this.over = over;
            values = new int[] {least, greatest, least - 1, greatest + 1, Integer.MIN_VALUE, Integer.MAX_VALUE};
        }

        private int refusal(int value) {
            return value < least ? under : value > greatest ? over : 0;
        }
    }

    private static List<Long> untouched;

    public static void main(String[] args) {
        untouched = Furnished.whole(Furnished.make());
        ofRooms();
        ofTexts();
        ofGauges();
        ofHunts();
        ofPairs();
        ofOdds();
        ofSets();
        ofStates();
        neverCounted();
        Check.end();
    }

    private static Argument of(int count) {
        return new Argument(0, count - 1, -1, -1);
    }

    private static Argument what(int count) {
        return new Argument(0, count - 1, -2, -2);
    }

    private static Argument number(int least, int greatest) {
        return new Argument(least, greatest, -4, -6);
    }

    private static void ofRooms() {
        tries("2: room", (x, a) -> x.room(a[0], a[1]), number(1, 99), of(4));
        tries("3: warm", (x, a) -> x.warm(a[0], a[1]), of(3), number(0, 9));
        tries("4: gas in the room", (x, a) -> x.gas(a[0], a[1], a[2], false), of(3), of(3), number(1, 99999));
        tries("4: gas on the wall", (x, a) -> x.gas(a[0], a[1], a[2], true), of(3), of(3), number(1, 99999));
        tries("5: gives", (x, a) -> x.gives(a[0], a[1], a[2]), of(4), of(10), number(0, 500));
        tries("7: pump", (x, a) -> x.pump(a[0], a[1], a[2], a[3], a[4]),
                of(3), number(0, 9), number(0, 9), number(0, 9), number(0, 99999));
        tries("8: leak", (x, a) -> x.leak(a[0], a[1], a[2]), of(3), of(3), number(0, 999));
        tries("9: ticks", (x, a) -> x.ticks(a[0]), number(1, 200));
        tries("10: in", (x, a) -> x.in(a[0], a[1], a[2]), of(3), of(3), what(3));
        tries("11: pumpOf", (x, a) -> x.pumpOf(a[0], a[1]), of(4), what(6));
        tries("12: all", (x, a) -> x.all(a[0], a[1]), of(3), what(5));
        tries("13: when", (x, a) -> x.when(a[0], a[1], a[2]), of(3), number(0, 999999), number(1, 300));
    }

    private static void ofTexts() {
        tries("14: feed", (x, a) -> x.feed(a[0], 65), number(1, 8));
        tries("16: unrule, 1 is gone", (x, a) -> x.unrule(a[0]), new Argument(2, 3, -1, -1));
        refused("16: unrule below 0", x -> x.unrule(-1), -1);
        tries("17: forbids of pumps", (x, a) -> x.forbids(a[0], true), of(4));
        tries("17: forbids of valves", (x, a) -> x.forbids(a[0], false), of(2));
        tries("18: valve shut", (x, a) -> x.valve(a[0], false), of(2));
        tries("19: start, to stop", (x, a) -> x.start(a[0], false), of(4));
        for (int pump : new int[] {-1, 4, Integer.MIN_VALUE, Integer.MAX_VALUE}) {
            refused("19: start of none " + pump, x -> x.start(pump, true), -1);
            refused("20: warmUp of none " + pump, x -> x.warmUp(pump), -1);
        }
        for (int pipe : new int[] {-1, 2, Integer.MIN_VALUE, Integer.MAX_VALUE}) {
            refused("18: opening of none " + pipe, x -> x.valve(pipe, true), -1);
        }
    }

    private static void ofGauges() {
        tries("24: rest", (x, a) -> x.rest(a[0], a[1], a[2]), of(3), of(3), what(2));
        tries("25: square", (x, a) -> x.square(a[0], a[1], true), of(5), of(5));
        tries("25: square, free", (x, a) -> x.square(a[0], a[1], false), of(5), of(5));
        tries("26: walks", (x, a) -> x.walks(a[0], a[1], a[2]), of(5), number(1, 12), what(3));
        tries("27: sees", (x, a) -> x.sees(a[0], a[1], a[2]), of(3), of(3), number(0, 9));
        tries("28: reads", (x, a) -> x.reads(a[0], a[1]), of(3), of(3));
        tries("29: reading", (x, a) -> x.reading(a[0], a[1]), of(3), number(-1, 9999));
        tries("30: trueGas", (x, a) -> x.trueGas(a[0], a[1]), number(0, 9), what(8));
        tries("31: stage", (x, a) -> x.stage(a[0], a[1], a[2], a[3], a[4]),
                of(4), number(0, 299), number(1, 99), number(0, 99), number(0, 9999));
        tries("32: restCold", (x, a) -> x.restCold(a[0]), of(4));
        tries("33: load", (x, a) -> x.load(a[0], a[1]), of(4), number(0, 300));
    }

    private static void ofHunts() {
        tries("34: late", (x, a) -> x.late(a[0], a[1]), of(8), number(0, 20));
        tries("35: spray", (x, a) -> x.spray(a[0], a[1]), of(8), number(0, 9999));
        tries("36: seen", (x, a) -> x.seen(a[0], true), number(0, 9999));
        tries("36: seen nothing", (x, a) -> x.seen(a[0], false), number(0, 9999));
        tries("38: hunt", (x, a) -> x.hunt(a[0]), what(4));
        tries("40: offer", (x, a) -> x.offer(a[0], a[1], a[2]), of(3), number(1, 9), number(1, 999));
        tries("41: plan", (x, a) -> x.plan(a[0], a[1]), number(0, 9999), what(2));
    }

    /** -1 "the same ROOM twice, too", ahead of a WIDTH that is refused. */
    private static void ofPairs() {
        int[] rooms = {0, 1, 2, -1, 3, Integer.MIN_VALUE, Integer.MAX_VALUE};
        Argument width = number(1, 9);
        for (int first : rooms) {
            for (int second : rooms) {
                boolean nobody = first == second || first < 0 || first > 2 || second < 0 || second > 2;
                for (int v : width.values) {
                    one("6: pipe", (x, a) -> x.pipe(a[0], a[1], a[2]), new int[] {first, second, v},
                            nobody ? -1 : width.refusal(v));
                }
            }
        }
    }

    /** n 0 .. 20, N 1 .. 30, k 0 .. N, c 0 .. n, -6 "n above N, too". */
    private static void ofOdds() {
        for (int parts : new int[] {1, 2, 19, 20, 21, 30}) {
            int taken = Math.min(20, parts);
            tries("39: odds of " + parts, (x, a) -> x.odds(parts, a[0], a[1], 0, a[2]),
                    number(0, parts), number(0, taken), what(2));
            tries("39: odds of " + parts, (x, a) -> x.odds(parts, 0, taken, a[0], 1), number(0, taken));
            tries("39: odds of " + parts, (x, a) -> x.odds(parts, parts, 1, a[0], a[1]), number(0, 1), what(2));
            tries("39: odds of " + parts, (x, a) -> x.odds(parts, parts, 0, a[0], 0), number(0, 0));
        }
        for (int parts : new int[] {30, 0, -1, Integer.MIN_VALUE, 31, Integer.MAX_VALUE}) {
            for (int signs = 0; signs < 8; signs++) {
                int bad = -(signs & 1);
                int taken = -(signs >> 1 & 1);
                int c = -(signs >> 2);
                int due = parts < 1 || signs > 0 ? -4 : parts > 30 ? -6 : 0;
                one("39: odds", (x, a) -> x.odds(a[0], a[1], a[2], a[3], 1), new int[] {parts, bad, taken, c}, due);
                one("39: odds", (x, a) -> x.odds(a[0], a[1], a[2], a[3], 2), new int[] {parts, bad, taken, c}, -2);
            }
        }
        refused("39: more bad ones than parts", x -> x.odds(29, 30, 1, 0, 0), -6);
        refused("39: n above N", x -> x.odds(19, 1, 20, 0, 0), -6);
        refused("39: c above n", x -> x.odds(30, 1, 19, 20, 0), -6);
        refused("39: n above N, and c below", x -> x.odds(19, 1, 20, -1, 0), -4);
        refused("39: n above N, and part", x -> x.odds(19, 1, 20, -1, 2), -2);
    }

    /** -1 "a set (bits; below 0, too) with others, or ones that are on; -4 i below 0; -6 more than 6". */
    private static void ofSets() {
        for (int i : new int[] {0, -1, Integer.MIN_VALUE, Integer.MAX_VALUE}) {
            refused("23: a set with another, i " + i, x -> x.order(0b10000, i), -1);
            refused("23: a set with two others, i " + i, x -> x.order(0b101000, i), -1);
            refused("23: a set with one that is on, i " + i, x -> x.order(0b1001, i), -1);
            refused("23: a set of the one that is on, i " + i, x -> x.order(1, i), -1);
            refused("23: a set below 0, i " + i, x -> x.order(-1, i), -1);
            refused("23: the set of bit 31 alone, i " + i, x -> x.order(Integer.MIN_VALUE, i), -1);
            refused("23: the greatest set, i " + i, x -> x.order(Integer.MAX_VALUE, i), -1);
        }
        refused("23: i below 0", x -> x.order(0b1000, -1), -4);
        refused("23: i far below 0", x -> x.order(0b1000, Integer.MIN_VALUE), -4);
        refused("23: i below 0 of no pump", x -> x.order(0, -1), -4);
        allowed("23: no i-th", x -> x.order(0b1000, Integer.MAX_VALUE));
        allowed("23: no pump", x -> x.order(0, 0));
        allowed("23: one WARMED", x -> x.order(0b0100, 0));
    }

    private static void ofStates() {
        refused("15: 16 RULES, a TEXT with a FAULT", RefusalsTest::sixteen, x -> x.rule(), -6);
        refused("15: 16 RULES, a right TEXT", RefusalsTest::sixteenAndText, x -> x.rule(), -6);
        refused("18: FORBIDDEN", x -> x.valve(1, true), -7);
        refused("19: FORBIDDEN", x -> x.warm(0, 0), x -> x.start(3, true), -7);
        refused("19: WARMED (to start it)", x -> x.start(2, true), -3);
        refused("20: no TRAP", x -> x.warmUp(0), -3);
        refused("20: no TRAP, an off one", x -> x.warmUp(1), -3);
        refused("21: there is none", x -> x.warm(0, 5), x -> x.undo(), -3);
        refused("22: there is none", x -> x.warm(0, 5), x -> x.redo(), -3);
        refused("4: above 999999 in the room", x -> fillUp(x, false), x -> x.gas(1, 1, 10, false), -6);
        refused("4: above 999999 on the wall", x -> fillUp(x, true), x -> x.gas(1, 1, 10, true), -6);
    }

    private static void sixteen(NearNothing x) {
        x.rule();
        for (int k = 4; k < 16; k++) {
            Check.due("15: up to 16", Check.rule(x, "P2:t=9"), k);
        }
        Check.feed(x, "P2:");
    }

    private static void sixteenAndText(NearNothing x) {
        sixteen(x);
        Check.feed(x, "t=9");
    }

    private static void fillUp(NearNothing x, boolean wall) {
        for (int k = 0; k < 10; k++) {
            x.gas(1, 1, 99999, wall);
        }
    }

    /** A FAULT ("nothing is counted"), an answer 0 or -9, and another what of count are no REFUSALS. */
    private static void neverCounted() {
        allowed("15: a fault", x -> x.rule());
        allowed("18: it was so", x -> x.valve(0, true));
        allowed("19: it was so", x -> x.start(0, true));
        allowed("20: it was so", x -> x.warmUp(2));
        allowed("13: none", x -> x.when(0, 0, 300));
        allowed("24: CLOSED", x -> x.rest(0, 2, 1));
        allowed("41: none", x -> x.plan(0, 0));
        for (int what : new int[] {Integer.MIN_VALUE, -1, 9, 10, 18, Integer.MAX_VALUE}) {
            refused("42: another what " + what, x -> x.count(what), -9);
        }
    }

    /** All values of each argument together: as many as 6 to the arguments, with 5 two odd ones at most. */
    private static void tries(String name, Call call, Argument... arguments) {
        int[] a = new int[arguments.length];
        int count = 1;
        for (int k = 0; k < a.length; k++) {
            count *= 6;
        }
        for (int which = 0; which < count; which++) {
            int left = which;
            int odd = 0;
            int due = 0;
            for (int k = 0; k < a.length; k++) {
                a[k] = arguments[k].values[left % 6];
                odd += left % 6 == 0 ? 0 : 1;
                left /= 6;
                int refusal = arguments[k].refusal(a[k]);
                due = refusal != 0 && (due == 0 || refusal > due) ? refusal : due;
            }
            if (a.length < 4 || odd <= 2 || odd == a.length) {
                one(name, call, a.clone(), due);
            }
        }
    }

    private static void one(String name, Call call, int[] a, int due) {
        String told = name + " of " + Arrays.toString(a);
        if (due == 0) {
            allowed(told, x -> call.on(x, a));
        } else {
            refused(told, x -> call.on(x, a), due);
        }
    }

    private static void refused(String call, Check.Call refusedCall, int due) {
        refused(call, Furnished.make(), untouched, refusedCall, due);
    }

    private static void refused(String call, Check.Step before, Check.Call refusedCall, int due) {
        NearNothing x = Furnished.make();
        NearNothing y = Furnished.make();
        before.of(x);
        before.of(y);
        refused(call, x, Furnished.whole(y), refusedCall, due);
    }

    /** Refused, counted once, and all else as in an object that was not asked. */
    private static void refused(String call, NearNothing x, List<Long> unasked, Check.Call refusedCall, int due) {
        Check.due(call, refusedCall.on(x), due);
        for (int number = 1; number <= 7; number++) {
            Check.due(call + ", REFUSALS -" + number, x.count(10 + number), -due == number ? 1 : 0);
        }
        Check.due(call + " changes nothing", Furnished.whole(x).equals(unasked) ? 1 : 0, 1);
    }

    private static void allowed(String call, Check.Call allowedCall) {
        NearNothing x = Furnished.make();
        long answer = allowedCall.on(x);
        Check.due(call + " is refused (it answers " + answer + ")", answer >= -7 && answer < 0 ? 1 : 0, 0);
        for (int number = 1; number <= 7; number++) {
            Check.due(call + ", REFUSALS -" + number, x.count(10 + number), 0);
        }
    }
}
