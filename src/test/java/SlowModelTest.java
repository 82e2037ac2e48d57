/** Long runs of calls, drawn by a fixed sequence of numbers, beside the slow model's answers. */
public final class SlowModelTest {
    private static final String SIGNS = "PV0123456789:rwvpt!()&|<=>";
    /** A text is fed by five calls at most and read by a sixth. */
    private static final int MOST_AT_ONCE = 6;
    private long seed;
    private int calls;
    private NearNothing x;
    private SlowModel slow;
    private String last;

    private SlowModelTest(long seed) {
        this.seed = seed * 7919 + 17;
        x = new NearNothing();
        slow = new SlowModel();
    }

    public static void main(String[] args) {
        int runs = args.length > 0 ? Integer.parseInt(args[0]) : 400;
        for (int run = 0; run < runs; run++) {
            SlowModelTest test = new SlowModelTest(run);
            for (int k = 0; test.calls + MOST_AT_ONCE <= 512; k++) {
                test.call(run, k);
            }
        }
        Check.end();
    }

    private int draw(int count) {
        seed = seed * 6364136223846793005L + 1442695040888963407L;
        return (int) ((seed >>> 33) % count);
    }

    /** Mostly from least to greatest, sometimes just beside, rarely far off. */
    private int number(int least, int greatest) {
        int way = draw(40);
        if (way == 0) {
            return least - 1;
        }
        if (way == 1) {
            return greatest + 1;
        }
        if (way == 2) {
            return draw(2) == 0 ? Integer.MIN_VALUE + draw(3) : Integer.MAX_VALUE - draw(3);
        }
        if (way < 6) {
            return way == 3 ? least : greatest;
        }
        return least + draw(greatest - least + 1);
    }

    private int oneOf(int count) {
        return number(0, Math.max(1, count) - 1);
    }

    private void due(int run, int k, long got, long want) {
        calls++;
        Check.due("run " + run + " call " + k + " " + last, got, want);
    }

    private void call(int run, int k) {
        int part = k < 40 ? draw(20) : draw(100);
        if (part < 20) {
            build(run, k, part);
        } else if (part < 45) {
            act(run, k, part - 20);
        } else if (part < 65) {
            read(run, k, part - 45);
        } else if (part < 75) {
            text(run, k);
        } else {
            others(run, k, part - 75);
        }
    }

    private void build(int run, int k, int part) {
        int room = oneOf(slow.rooms.size());
        int gas = oneOf(3);
        if (part < 3) {
            int size = draw(2) == 0 ? number(1, 3) : number(1, 99);
            int stuff = oneOf(4);
            last = "room " + size + " " + stuff;
            due(run, k, x.room(size, stuff), slow.room(size, stuff));
        } else if (part < 5) {
            int v = number(0, 9);
            last = "warm " + room + " " + v;
            due(run, k, x.warm(room, v), slow.warm(room, v));
        } else if (part < 9) {
            int n = draw(3) == 0 ? number(1, 99999) : number(1, 300);
            boolean wall = draw(2) == 0;
            last = "gas " + room + " " + gas + " " + n + " " + wall;
            due(run, k, x.gas(room, gas, n, wall), slow.gas(room, gas, n, wall));
        } else if (part < 11) {
            int stuff = oneOf(4);
            int warmth = draw(2) == 0 ? 5 : oneOf(10);
            int v = number(0, 500);
            last = "gives " + stuff + " " + warmth + " " + v;
            due(run, k, x.gives(stuff, warmth, v), slow.gives(stuff, warmth, v));
        } else if (part < 14) {
            int b = oneOf(slow.rooms.size());
            int width = number(1, 9);
            last = "pipe " + room + " " + b + " " + width;
            due(run, k, x.pipe(room, b, width), slow.pipe(room, b, width));
        } else if (part < 17) {
            int[] s = {number(0, 9), number(0, 9), number(0, 9)};
            int limit = draw(2) == 0 ? 0 : draw(2) == 0 ? number(0, 200) : number(0, 99999);
            last = "pump " + room + " " + s[0] + " " + s[1] + " " + s[2] + " " + limit;
            due(run, k, x.pump(room, s[0], s[1], s[2], limit), slow.pump(room, s[0], s[1], s[2], limit));
        } else {
            int n = number(0, 999);
            last = "leak " + room + " " + gas + " " + n;
            due(run, k, x.leak(room, gas, n), slow.leak(room, gas, n));
        }
    }

    private void act(int run, int k, int part) {
        boolean on = draw(3) > 0;
        if (part < 6) {
            int pipe = oneOf(slow.pipes.size());
            last = "valve " + pipe + " " + on;
            due(run, k, x.valve(pipe, on), slow.valve(pipe, on));
        } else if (part < 12) {
            int pump = oneOf(slow.pumps.size());
            last = "start " + pump + " " + on;
            due(run, k, x.start(pump, on), slow.start(pump, on));
        } else if (part < 14) {
            int pump = oneOf(slow.pumps.size());
            last = "warmUp " + pump;
            due(run, k, x.warmUp(pump), slow.warmUp(pump));
        } else if (part < 17) {
            last = "undo";
            due(run, k, x.undo(), slow.undo());
        } else if (part < 20) {
            last = "redo";
            due(run, k, x.redo(), slow.redo());
        } else if (part < 22) {
            int n = draw(2) == 0 ? number(1, 5) : number(1, 200);
            last = "ticks " + n;
            due(run, k, x.ticks(n), slow.ticks(n));
        } else {
            int set = oneOf(1 << slow.pumps.size());
            set = draw(4) > 0 ? set & ~slow.states.get(slow.state)[1] : set;
            int i = number(0, 5);
            last = "order " + set + " " + i;
            due(run, k, x.order(set, i), slow.order(set, i));
        }
    }

    private void read(int run, int k, int part) {
        int room = oneOf(slow.rooms.size());
        int gas = oneOf(3);
        if (part < 4) {
            int where = oneOf(3);
            last = "in " + room + " " + gas + " " + where;
            due(run, k, x.in(room, gas, where), slow.in(room, gas, where));
        } else if (part < 7) {
            int pump = oneOf(slow.pumps.size());
            int what = oneOf(6);
            last = "pumpOf " + pump + " " + what;
            due(run, k, x.pumpOf(pump, what), slow.pumpOf(pump, what));
        } else if (part < 10) {
            int what = oneOf(5);
            last = "all " + gas + " " + what;
            due(run, k, x.all(gas, what), slow.all(gas, what));
        } else if (part < 13) {
            int mark = draw(2) == 0 ? number(0, 999999) : number(0, 20000);
            int most = number(1, 300);
            last = "when " + room + " " + mark + " " + most;
            due(run, k, x.when(room, mark, most), slow.when(room, mark, most));
        } else if (part < 16) {
            int below = oneOf(2);
            last = "rest " + room + " " + gas + " " + below;
            due(run, k, x.rest(room, gas, below), slow.rest(room, gas, below));
        } else {
            int what = draw(10) == 0 ? number(-2, 30) : draw(19);
            last = "count " + what;
            due(run, k, x.count(what), slow.count(what));
        }
    }

    private void text(int run, int k) {
        int part = draw(12);
        if (part < 6) {
            String text = rightText();
            int way = draw(8);
            if (way == 0) {
                text = text.substring(0, draw(text.length()));
            } else if (way == 1) {
                int at = draw(text.length());
                text = text.substring(0, at) + (char) draw(256) + text.substring(at + 1);
            } else if (way == 2) {
                int at = draw(text.length());
                text = text.substring(0, at) + SIGNS.charAt(draw(SIGNS.length())) + text.substring(at);
            }
            for (int from = 0; from < text.length(); from += 8) {
                String bytes = text.substring(from, Math.min(text.length(), from + 8));
                last = "feed " + text;
                due(run, k, x.feed(bytes.length(), Check.bytes(bytes)),
                        slow.feed(bytes.length(), Check.bytes(bytes)));
            }
            last = "rule " + slow.text;
            due(run, k, x.rule(), slow.rule());
        } else if (part == 6) {
            int n = number(1, 8);
            long bytes = (long) draw(1 << 30) << 40 ^ (long) draw(1 << 30) << 20 ^ draw(1 << 30);
            last = "feed " + n + " " + bytes;
            due(run, k, x.feed(n, bytes), slow.feed(n, bytes));
        } else if (part == 7) {
            int rule = oneOf(slow.rules.size());
            last = "unrule " + rule;
            due(run, k, x.unrule(rule), slow.unrule(rule));
        } else {
            boolean pump = draw(2) == 0;
            int it = oneOf(pump ? slow.pumps.size() : slow.pipes.size());
            last = "forbids " + it + " " + pump;
            due(run, k, x.forbids(it, pump), slow.forbids(it, pump));
        }
    }

    private String rightText() {
        String target = draw(3) == 0 ? "V" : "P";
        return target + draw(8) + ":" + test(draw(3));
    }

    private String test(int deep) {
        String text = part(deep);
        for (int k = draw(3); k > 0; k--) {
            text += (draw(2) == 0 ? "&" : "|") + part(deep);
        }
        return text;
    }

    private String part(int deep) {
        if (deep > 0 && draw(2) == 0) {
            return draw(2) == 0 ? "!" + part(deep - 1) : "(" + test(deep - 1) + ")";
        }
        int way = draw(10);
        String relation = "<=>".substring(draw(3)).substring(0, 1);
        if (way < 6) {
            return "p" + draw(8) + "=" + draw(2);
        }
        if (way == 6) {
            return "v" + draw(10) + "=" + draw(2);
        }
        if (way == 7) {
            return "w" + draw(6) + relation + draw(10);
        }
        return way == 8 ? "r" + draw(6) + relation + draw(20000) : "t" + relation + draw(300);
    }

    private void others(int run, int k, int part) {
        if (part < 10) {
            gauges(run, k, part);
        } else if (part < 19) {
            hunt(run, k, part - 10);
        } else if (part < 21) {
            int parts = number(1, 30);
            int n = number(0, Math.min(20, Math.max(0, parts)));
            int bad = number(0, Math.max(1, Math.min(30, parts)));
            int c = number(0, Math.max(0, Math.min(n, 30)));
            int which = oneOf(2);
            last = "odds " + parts + " " + bad + " " + n + " " + c + " " + which;
            due(run, k, x.odds(parts, bad, n, c, which), slow.odds(parts, bad, n, c, which));
        } else if (part < 23) {
            int room = oneOf(slow.rooms.size());
            int speed = number(1, 9);
            int price = draw(2) == 0 ? number(1, 5) : number(1, 999);
            last = "offer " + room + " " + speed + " " + price;
            due(run, k, x.offer(room, speed, price), slow.offer(room, speed, price));
        } else {
            int m = draw(2) == 0 ? number(0, 300) : number(0, 9999);
            int what = oneOf(2);
            last = "plan " + m + " " + what;
            due(run, k, x.plan(m, what), slow.plan(m, what));
        }
    }

    private void gauges(int run, int k, int part) {
        if (part < 2) {
            int sx = oneOf(5);
            int sy = oneOf(5);
            boolean wall = draw(3) == 0;
            last = "square " + sx + " " + sy + " " + wall;
            due(run, k, x.square(sx, sy, wall), slow.square(sx, sy, wall));
        } else if (part < 3) {
            int y = oneOf(5);
            int n = draw(50) == 0 ? number(0, 10) : number(1, 6);
            int what = oneOf(3);
            last = "walks " + y + " " + n + " " + what;
            due(run, k, x.walks(y, n, what), slow.walks(y, n, what));
        } else if (part < 4) {
            int gauge = oneOf(3);
            int gas = oneOf(3);
            int v = number(0, 9);
            last = "sees " + gauge + " " + gas + " " + v;
            due(run, k, x.sees(gauge, gas, v), slow.sees(gauge, gas, v));
        } else if (part < 5) {
            int gauge = oneOf(3);
            int room = oneOf(slow.rooms.size());
            last = "reads " + gauge + " " + room;
            due(run, k, x.reads(gauge, room), slow.reads(gauge, room));
        } else if (part < 6) {
            int gauge = oneOf(3);
            int v = draw(20) == 0 ? number(-1, 9999) : number(-1, 40);
            last = "reading " + gauge + " " + v;
            due(run, k, x.reading(gauge, v), slow.reading(gauge, v));
        } else if (part < 7) {
            int doubt = number(0, 9);
            int what = oneOf(8);
            last = "trueGas " + doubt + " " + what;
            due(run, k, x.trueGas(doubt, what), slow.trueGas(doubt, what));
        } else if (part < 8) {
            int stage = oneOf(4);
            int[] s = {number(0, 299), draw(2) == 0 ? number(1, 9) : number(1, 99),
                draw(2) == 0 ? number(0, 5) : number(0, 99),
                draw(2) == 0 ? number(0, 300) : number(0, 9999)};
            last = "stage " + stage + " " + s[0] + " " + s[1] + " " + s[2] + " " + s[3];
            due(run, k, x.stage(stage, s[0], s[1], s[2], s[3]), slow.stage(stage, s[0], s[1], s[2], s[3]));
        } else if (part < 9) {
            int stage = oneOf(4);
            last = "restCold " + stage;
            due(run, k, x.restCold(stage), slow.restCold(stage));
        } else {
            int stage = oneOf(4);
            int mark = number(0, 300);
            last = "load " + stage + " " + mark;
            due(run, k, x.load(stage, mark), slow.load(stage, mark));
        }
    }

    private void hunt(int run, int k, int part) {
        if (part < 1) {
            int place = oneOf(8);
            int n = number(0, 20);
            last = "late " + place + " " + n;
            due(run, k, x.late(place, n), slow.late(place, n));
        } else if (part < 4) {
            int place = oneOf(8);
            int tick = draw(20) == 0 ? number(0, 9999) : number(0, 4);
            last = "spray " + place + " " + tick;
            due(run, k, x.spray(place, tick), slow.spray(place, tick));
        } else if (part < 6) {
            int tick = draw(20) == 0 ? number(0, 9999) : number(3, 7);
            boolean some = draw(3) == 0;
            last = "seen " + tick + " " + some;
            due(run, k, x.seen(tick, some), slow.seen(tick, some));
        } else if (part < 8) {
            int what = oneOf(4);
            last = "hunt " + what;
            due(run, k, x.hunt(what), slow.hunt(what));
        } else if (draw(4) == 0) {
            last = "anew";
            due(run, k, x.anew(), slow.anew());
        } else {
            last = "count 8";
            due(run, k, x.count(8), slow.count(8));
        }
    }
}
