import java.util.ArrayList;
import java.util.List;

/** An object with something of everything in it, and all that can be asked of one. */
final class Furnished {
    private Furnished() {
    }

    static NearNothing make() {
        NearNothing x = new NearNothing();
        x.room(3, 0);
        x.room(1, 2);
        x.room(7, 3);
        x.warm(1, 8);
        x.gives(0, 5, 100);
        x.gives(2, 8, 250);
        x.gives(3, 9, 1);
        x.gas(0, 0, 5000, false);
        x.gas(0, 1, 700, true);
        x.gas(1, 2, 900, false);
        x.gas(2, 2, 40, true);
        x.leak(0, 0, 6);
        x.leak(2, 0, 4);
        x.leak(1, 2, 3);
        plant(x);
        others(x);
        return x;
    }

    private static void plant(NearNothing x) {
        x.pipe(0, 1, 2);
        x.pipe(1, 2, 9);
        x.pump(0, 9, 1, 0, 0);
        x.pump(2, 1, 2, 3, 0);
        x.pump(1, 5, 5, 5, 60);
        x.pump(2, 0, 0, 9, 10);
        x.valve(0, true);
        x.start(2, true);
        x.ticks(3);
        Check.rule(x, "P1:t<90&!p0=1");
        Check.rule(x, "V1:t=0");
        Check.rule(x, "V1:p3=1|r0>9");
        Check.rule(x, "P3:w0=0");
        x.unrule(1);
        x.start(0, true);
        x.warmUp(2);
        x.start(1, true);
        x.valve(0, false);
        x.valve(0, true);
        x.undo();
        x.undo();
        Check.feed(x, "P2:t=");
    }

    private static void others(NearNothing x) {
        x.square(1, 1, true);
        x.square(3, 4, true);
        x.sees(0, 1, 4);
        x.sees(2, 0, 0);
        x.reading(0, 9);
        x.reading(2, 5);
        x.stage(0, 40, 2, 1, 30);
        x.stage(1, 10, 3, 2, 5);
        x.late(2, 7);
        x.spray(2, 10);
        x.spray(0, 14);
        x.spray(4, 30);
        x.seen(17, true);
        x.seen(33, false);
        x.offer(0, 4, 30);
        x.offer(2, 1, 9);
    }

    /** What can be asked without a change, then what is known from what was, told anew. */
    static List<Long> whole(NearNothing x) {
        List<Long> all = new ArrayList<>();
        for (int what = 0; what <= 8; what++) {
            all.add((long) x.count(what));
        }
        for (int gas = 0; gas < 3; gas++) {
            for (int room = 0; room < x.count(1); room++) {
                all.add((long) x.in(room, gas, 0));
                all.add((long) x.in(room, gas, 1));
                all.add(x.rest(room, gas, 0));
                all.add((long) x.reads(gas, room));
            }
            all.add((long) x.all(gas, 0));
        }
        for (int pump = 0; pump < x.count(4); pump++) {
            for (int what = 0; what <= 5; what++) {
                all.add((long) x.pumpOf(pump, what));
            }
            all.add((long) x.forbids(pump, true));
        }
        for (int k = 0; k < x.count(2); k++) {
            all.add((long) x.forbids(k, false));
        }
        askOthers(x, all);
        tellAnew(x, all);
        goBack(x, all);
        return all;
    }

    private static void askOthers(NearNothing x, List<Long> all) {
        for (int y = 0; y < 5; y++) {
            all.add((long) x.walks(y, 7, 1));
        }
        for (int what = 0; what < 8; what += 3) {
            all.add((long) x.trueGas(2, what));
        }
        for (int k = 0; k < 4; k++) {
            all.add((long) x.restCold(k));
            all.add((long) x.load(k, 290));
            all.add((long) x.hunt(k));
        }
        all.add((long) x.plan(3, 1));
    }

    private static void tellAnew(NearNothing x, List<Long> all) {
        all.add((long) x.rule());
        for (int gauge = 0; gauge < 3; gauge++) {
            for (int gas = 0; gas < 3; gas++) {
                all.add((long) x.sees(gauge, gas, 1));
            }
        }
        for (int place = 0; place < 8; place++) {
            all.add((long) x.late(place, 0));
        }
        for (int at = 0; at < 25; at++) {
            all.add((long) x.square(at % 5, at / 5, false));
        }
        all.add((long) x.anew());
        all.add((long) x.offer(0, 1, 1));
    }

    private static void goBack(NearNothing x, List<Long> all) {
        all.add((long) x.redo());
        all.add((long) x.redo());
        for (int k = x.count(7); k > 0; k--) {
            all.add((long) x.undo());
            all.add(x.count(3) * 10L + x.count(5));
        }
        for (int room = 0; room < x.count(1); room++) {
            all.add((long) x.warm(room, 0));
            for (int gas = 0; gas < 3; gas++) {
                all.add((long) x.leak(room, gas, 0));
            }
        }
        for (int stuff = 0; stuff < 4; stuff++) {
            for (int warmth = 0; warmth < 10; warmth++) {
                all.add((long) x.gives(stuff, warmth, 0));
            }
        }
    }
}
