import java.util.Arrays;

/** A plant of pumped rooms, its cold, its gauges and its leaks. See README.md. */
public final class NearNothing {
    private static final int NOBODY = -1;
    private static final int OTHER = -2;
    private static final int STATE = -3;
    private static final int BELOW = -4;
    private static final int ABOVE = -6;
    private static final int FORBIDDEN = -7;
    private static final int NONE = -9;
    private static final int FAULTY = -20;

    private static final int ROOMS = 5;
    private static final int GASES = 3;
    private static final int STUFFS = 4;
    private static final int WARMTHS = 10;
    private static final int PIPES = 12;
    private static final int PUMPS = 8;
    private static final int TICKS = 5000;
    private static final int TEXT = 40;
    private static final int RULES = 16;
    private static final int GREATEST = 2000000000;

    private final Plant plant;
    private final Grains grains;
    private final Grains ahead;
    private final Acts acts;
    private final Reader reader;
    private final Rules rules;
    private final Starts starts;
    private final Rest still;
    private final Drawing drawing;
    private final Gauges gauges;
    private final Cold cold;
    private final Search search;
    private final int[] refusals;

    public NearNothing() {
        plant = new Plant();
        grains = new Grains();
        ahead = new Grains();
        acts = new Acts();
        reader = new Reader();
        rules = new Rules(plant, grains);
        starts = new Starts(rules);
        still = new Rest(plant);
        drawing = new Drawing();
        gauges = new Gauges();
        cold = new Cold();
        search = new Search();
        refusals = new int[8];
    }

    // ---- I: rooms, pipes, pumps and ticks ----

    public int room(int size, int stuff) {
        int no = refusal(!within(stuff, STUFFS), false, size < 1,
                size > 99 || plant.rooms >= ROOMS);
        if (no != 0) {
            return no;
        }
        acts.forget();
        return plant.addRoom(size, stuff);
    }

    public int warm(int room, int v) {
        int no = refusal(!within(room, plant.rooms), false, v < 0, v >= WARMTHS);
        if (no != 0) {
            return no;
        }
        acts.forget();
        int was = plant.warmth[room];
        plant.warmth[room] = v;
        return was;
    }

    public int gas(int room, int gas, int n, boolean wall) {
        boolean nobody = !within(room, plant.rooms) || !within(gas, GASES);
        int there = nobody ? 0 : grains.amount(room, gas, wall);
        int no = refusal(nobody, false, n < 1, n > 99999 || (long) there + n > 999999);
        if (no != 0) {
            return no;
        }
        acts.forget();
        grains.tell(room, gas, n, wall);
        return there + n;
    }

    public int gives(int stuff, int warmth, int v) {
        int no = refusal(!within(stuff, STUFFS) || !within(warmth, WARMTHS), false, v < 0, v > 500);
        if (no != 0) {
            return no;
        }
        acts.forget();
        int at = stuff * WARMTHS + warmth;
        int was = plant.share[at];
        plant.share[at] = v;
        return was;
    }

    public int pipe(int a, int b, int width) {
        boolean nobody = !within(a, plant.rooms) || !within(b, plant.rooms) || a == b;
        int no = refusal(nobody, false, width < 1, width > 9 || plant.pipes >= PIPES);
        if (no != 0) {
            return no;
        }
        acts.forget();
        return plant.addPipe(a, b, width);
    }

    public int pump(int room, int s0, int s1, int s2, int limit) {
        boolean above = s0 > 9 || s1 > 9 || s2 > 9 || limit > 99999 || plant.pumps >= PUMPS;
        int no = refusal(!within(room, plant.rooms), false,
                s0 < 0 || s1 < 0 || s2 < 0 || limit < 0, above);
        if (no != 0) {
            return no;
        }
        acts.forget();
        return plant.addPump(room, s0, s1, s2, limit);
    }

    public int leak(int room, int gas, int n) {
        int no = refusal(!within(room, plant.rooms) || !within(gas, GASES), false, n < 0, n > 999);
        if (no != 0) {
            return no;
        }
        acts.forget();
        int at = room * GASES + gas;
        int was = plant.leaking[at];
        plant.leaking[at] = n;
        return was;
    }

    public int ticks(int n) {
        int no = refusal(false, false, n < 1, n > 200 || n > TICKS - grains.tick);
        if (no != 0) {
            return no;
        }
        acts.forget();
        for (int k = 0; k < n; k++) {
            grains.pass(plant);
        }
        return grains.tick;
    }

    public int in(int room, int gas, int where) {
        int no = refusal(!within(room, plant.rooms) || !within(gas, GASES), !within(where, 3),
                false, false);
        if (no != 0) {
            return no;
        }
        return where == 2 ? grains.push(plant, room) : grains.amount(room, gas, where == 1);
    }

    public int pumpOf(int pump, int what) {
        int no = refusal(!within(pump, plant.pumps), !within(what, 6), false, false);
        if (no != 0) {
            return no;
        }
        if (what == 0) {
            return plant.on >> pump & 1;
        }
        if (what == 4) {
            return grains.warmed >> pump & 1;
        }
        return what == 5 ? plant.limit[pump] : grains.taken[pump * GASES + what - 1];
    }

    public int all(int gas, int what) {
        int no = refusal(!within(gas, GASES), !within(what, 5), false, false);
        return no != 0 ? no : grains.total(plant, gas, what);
    }

    public int when(int room, int mark, int most) {
        int no = refusal(!within(room, plant.rooms), false, mark < 0 || most < 1,
                mark > 999999 || most > 300);
        if (no != 0) {
            return no;
        }
        ahead.become(grains);
        for (int k = 0; k < most && ahead.tick < TICKS; k++) {
            ahead.pass(plant);
            if (ahead.push(plant, room) < mark) {
                return ahead.tick;
            }
        }
        return NONE;
    }

    // ---- II: rules and the order of starting ----

    public int feed(int n, long bytes) {
        int no = refusal(false, false, n < 1, n > 8 || n > TEXT - reader.length);
        return no != 0 ? no : reader.take(n, bytes);
    }

    public int rule() {
        if (rules.made >= RULES) {
            return refuse(ABOVE);
        }
        boolean right = reader.parses();
        int fault = reader.place;
        reader.length = 0;
        return right ? rules.add(reader) : FAULTY - fault;
    }

    public int unrule(int rule) {
        if (!within(rule, rules.made) || !rules.stands(rule)) {
            return refuse(NOBODY);
        }
        rules.drop(rule);
        return 1;
    }

    public int forbids(int k, boolean pump) {
        if (!within(k, pump ? plant.pumps : plant.pipes)) {
            return refuse(NOBODY);
        }
        return rules.forbidder(k, pump, plant.on);
    }

    public int valve(int pipe, boolean open) {
        if (!within(pipe, plant.pipes)) {
            return refuse(NOBODY);
        }
        if ((plant.open >> pipe & 1) == (open ? 1 : 0)) {
            return 0;
        }
        if (open && rules.forbidder(pipe, false, plant.on) != NONE) {
            return refuse(FORBIDDEN);
        }
        acts.perform(Acts.VALVE, pipe, plant, grains);
        return 1;
    }

    public int start(int pump, boolean on) {
        if (!within(pump, plant.pumps)) {
            return refuse(NOBODY);
        }
        if ((plant.on >> pump & 1) == (on ? 1 : 0)) {
            return 0;
        }
        if (on && (grains.warmed >> pump & 1) == 1) {
            return refuse(STATE);
        }
        if (on && rules.forbidder(pump, true, plant.on) != NONE) {
            return refuse(FORBIDDEN);
        }
        acts.perform(Acts.PUMP, pump, plant, grains);
        return 1;
    }

    public int warmUp(int pump) {
        if (!within(pump, plant.pumps)) {
            return refuse(NOBODY);
        }
        if (plant.limit[pump] == 0) {
            return refuse(STATE);
        }
        if ((grains.warmed >> pump & 1) == 1) {
            return 0;
        }
        acts.perform(Acts.WARMING, pump, plant, grains);
        return 1;
    }

    public int undo() {
        return acts.takeBack(plant, grains) ? 1 : refuse(STATE);
    }

    public int redo() {
        return acts.repeat(plant, grains) ? 1 : refuse(STATE);
    }

    public int order(int set, int i) {
        boolean nobody = set < 0 || set >> plant.pumps != 0 || (set & plant.on) != 0;
        int no = refusal(nobody, false, i < 0, Integer.bitCount(set) > 6);
        return no != 0 ? no : starts.nth(set, i, plant.on, grains.warmed);
    }

    // ---- III: pushes at rest, walks ----

    public long rest(int room, int gas, int part) {
        int no = refusal(!within(room, plant.rooms) || !within(gas, GASES), !within(part, 2),
                false, false);
        return no != 0 ? no : still.fraction(room, gas, part);
    }

    public int square(int x, int y, boolean wall) {
        if (!within(x, Drawing.SIDE) || !within(y, Drawing.SIDE)) {
            return refuse(NOBODY);
        }
        return drawing.draw(x, y, wall) ? 1 : 0;
    }

    public int walks(int y, int n, int what) {
        int no = refusal(!within(y, Drawing.SIDE), !within(what, 3), n < 1, n > 12);
        return no != 0 ? no : drawing.ways(y, n, what);
    }

    // ---- IV: gauges and cold ----

    public int sees(int gauge, int gas, int v) {
        int no = refusal(!within(gauge, Gauges.COUNT) || !within(gas, GASES), false, v < 0, v > 9);
        if (no != 0) {
            return no;
        }
        int at = gauge * GASES + gas;
        int was = gauges.sight[at];
        gauges.sight[at] = v;
        return was;
    }

    public int reads(int gauge, int room) {
        if (!within(gauge, Gauges.COUNT) || !within(room, plant.rooms)) {
            return refuse(NOBODY);
        }
        return gauges.shown(gauge, grains, room);
    }

    public int reading(int gauge, int v) {
        int no = refusal(!within(gauge, Gauges.COUNT), false, v < -1, v > 9999);
        if (no != 0) {
            return no;
        }
        gauges.asked[gauge] = v;
        return 1;
    }

    public int trueGas(int doubt, int what) {
        int no = refusal(false, !within(what, 8), doubt < 0, doubt > 9);
        if (no != 0) {
            return no;
        }
        return what == 7 ? gauges.hidden() : gauges.possible(doubt, what);
    }

    public int stage(int k, int floor, int power, int wire, int heat) {
        int no = refusal(!within(k, Cold.STAGES), false,
                floor < 0 || power < 1 || wire < 0 || heat < 0,
                floor > 299 || power > 99 || wire > 99 || heat > Cold.HOTTEST);
        if (no != 0) {
            return no;
        }
        cold.tell(k, floor, power, wire, heat);
        return 1;
    }

    public int restCold(int k) {
        return within(k, Cold.STAGES) ? cold.degree(k) : refuse(NOBODY);
    }

    public int load(int k, int mark) {
        int no = refusal(!within(k, Cold.STAGES), false, mark < 0, mark > Cold.WARMEST);
        return no != 0 ? no : cold.bearable(k, mark);
    }

    // ---- V: hunting leaks, odds, offers ----

    public int late(int place, int n) {
        int no = refusal(!within(place, Search.PLACES), false, n < 0, n > 20);
        if (no != 0) {
            return no;
        }
        int was = search.delay[place];
        search.delay[place] = n;
        return was;
    }

    public int spray(int place, int tick) {
        int no = refusal(!within(place, Search.PLACES), false, tick < 0,
                tick > 9999 || search.sprays >= Search.MOST);
        return no != 0 ? no : search.addSpray(place, tick);
    }

    public int seen(int tick, boolean some) {
        int no = refusal(false, false, tick < 0, tick > 9999 || search.sights >= Search.MOST);
        return no != 0 ? no : search.addSight(tick, some);
    }

    public int anew() {
        int were = search.sprays + search.sights;
        search.sprays = 0;
        search.sights = 0;
        return were;
    }

    public int hunt(int what) {
        return within(what, 4) ? search.found(what) : refuse(OTHER);
    }

    public long odds(int parts, int bad, int taken, int c, int part) {
        int no = refusal(false, !within(part, 2), parts < 1 || bad < 0 || taken < 0 || c < 0,
                parts > 30 || bad > parts || taken > 20 || taken > parts || c > taken);
        if (no != 0) {
            return no;
        }
        return part == 1 ? choices(parts, taken) : passing(parts, bad, taken, c);
    }

    public int offer(int room, int speed, int price) {
        int no = refusal(!within(room, plant.rooms), false, speed < 1 || price < 1,
                speed > 9 || price > 999 || still.offers >= Rest.OFFERS);
        return no != 0 ? no : still.addOffer(room, speed, price);
    }

    public int plan(int m, int what) {
        int no = refusal(false, !within(what, 2), m < 0, m > 9999);
        return no != 0 ? no : still.cheapest(m, what);
    }

    public int count(int what) {
        if (what >= 11 && what <= 17) {
            return refusals[what - 10];
        }
        switch (what) {
            case 0: return grains.tick;
            case 1: return plant.rooms;
            case 2: return plant.pipes;
            case 3: return Integer.bitCount(plant.open);
            case 4: return plant.pumps;
            case 5: return Integer.bitCount(plant.on);
            case 6: return Integer.bitCount(rules.standing);
            case 7: return acts.done;
            case 8: return reader.length;
            default: return NONE;
        }
    }

    // ---- refusals and sums ----

    /** The first refusal that fits, counted; 0 if none does. */
    private int refusal(boolean nobody, boolean other, boolean below, boolean above) {
        if (nobody) {
            return refuse(NOBODY);
        }
        if (other) {
            return refuse(OTHER);
        }
        if (below) {
            return refuse(BELOW);
        }
        return above ? refuse(ABOVE) : 0;
    }

    private int refuse(int number) {
        if (number < 0 && number > -refusals.length) {
            refusals[-number]++;
        }
        return number;
    }

    private static boolean within(int number, int count) {
        return number >= 0 && number < count;
    }

    private static long passing(int parts, int bad, int taken, int c) {
        long sum = 0;
        for (int k = 0; k <= c; k++) {
            sum += choices(bad, k) * choices(parts - bad, taken - k);
        }
        return sum;
    }

    /** How many ways there are to take k of n (n 30 at most). */
    private static long choices(int n, int k) {
        if (k < 0 || k > n) {
            return 0;
        }
        long ways = 1;
        for (int i = 1; i <= k; i++) {
            ways = ways * (n - k + i) / i;
        }
        return ways;
    }

    /** What is told of rooms, pipes and pumps, which valves are open and which pumps are on. */
    private static final class Plant {
        int rooms;
        final int[] size = new int[ROOMS];
        final int[] stuff = new int[ROOMS];
        final int[] warmth = new int[ROOMS];
        final int[] share = new int[STUFFS * WARMTHS];
        final int[] leaking = new int[ROOMS * GASES];
        int pipes;
        final int[] first = new int[PIPES];
        final int[] second = new int[PIPES];
        final int[] width = new int[PIPES];
        int open;
        int pumps;
        final int[] site = new int[PUMPS];
        final int[] speed = new int[PUMPS * GASES];
        final int[] limit = new int[PUMPS];
        int on;

        int addRoom(int newSize, int newStuff) {
            if (rooms >= ROOMS) {
                return NONE;
            }
            size[rooms] = newSize;
            stuff[rooms] = newStuff;
            warmth[rooms] = 5;
            return rooms++;
        }

        int addPipe(int a, int b, int newWidth) {
            if (pipes >= PIPES) {
                return NONE;
            }
            first[pipes] = a;
            second[pipes] = b;
            width[pipes] = newWidth;
            return pipes++;
        }

        int addPump(int room, int s0, int s1, int s2, int newLimit) {
            if (pumps >= PUMPS) {
                return NONE;
            }
            site[pumps] = room;
            speed[pumps * GASES] = s0;
            speed[pumps * GASES + 1] = s1;
            speed[pumps * GASES + 2] = s2;
            limit[pumps] = newLimit;
            return pumps++;
        }

        /** The size of a room as a divisor: never 0. */
        long divisor(int room) {
            return size[room] > 0 ? size[room] : 1;
        }

        int givenShare(int room) {
            return share[stuff[room] * WARMTHS + warmth[room]];
        }
    }

    /** Where all gas is, and the tick: what a tick changes. */
    private static final class Grains {
        int tick;
        int warmed;
        final int[] inside = new int[ROOMS * GASES];
        final int[] onWall = new int[ROOMS * GASES];
        final int[] taken = new int[PUMPS * GASES];
        final int[] told = new int[GASES];
        private final int[] before = new int[ROOMS * GASES];

        void become(Grains other) {
            tick = other.tick;
            warmed = other.warmed;
            System.arraycopy(other.inside, 0, inside, 0, ROOMS * GASES);
            System.arraycopy(other.onWall, 0, onWall, 0, ROOMS * GASES);
            System.arraycopy(other.taken, 0, taken, 0, PUMPS * GASES);
            System.arraycopy(other.told, 0, told, 0, GASES);
        }

        int amount(int room, int gas, boolean wall) {
            return wall ? onWall[room * GASES + gas] : inside[room * GASES + gas];
        }

        void tell(int room, int gas, int n, boolean wall) {
            if (wall) {
                onWall[room * GASES + gas] += n;
            } else {
                inside[room * GASES + gas] += n;
            }
            told[gas] += n;
        }

        int push(Plant plant, int room) {
            long sum = 0;
            for (int gas = 0; gas < GASES; gas++) {
                sum += inside[room * GASES + gas];
            }
            return (int) Math.min(GREATEST, sum * 100 / plant.divisor(room));
        }

        /** 0 in, 1 out, 2 in rooms, 3 on walls, 4 in traps. */
        int total(Plant plant, int gas, int what) {
            if (what == 0) {
                return told[gas];
            }
            int sum = 0;
            if (what == 2 || what == 3) {
                for (int room = 0; room < plant.rooms; room++) {
                    sum += amount(room, gas, what == 3);
                }
                return sum;
            }
            for (int pump = 0; pump < plant.pumps; pump++) {
                boolean trap = plant.limit[pump] > 0;
                sum += trap == (what == 4) ? taken[pump * GASES + gas] : 0;
            }
            return sum;
        }

        void pass(Plant plant) {
            giveOff(plant);
            leakIn(plant);
            System.arraycopy(inside, 0, before, 0, ROOMS * GASES);
            for (int pipe = 0; pipe < plant.pipes; pipe++) {
                if ((plant.open >> pipe & 1) == 1) {
                    flow(plant, plant.first[pipe], plant.second[pipe], plant.width[pipe]);
                    flow(plant, plant.second[pipe], plant.first[pipe], plant.width[pipe]);
                }
            }
            for (int pump = 0; pump < plant.pumps; pump++) {
                if ((plant.on >> pump & 1) == 1) {
                    draw(plant, pump);
                }
            }
            for (int pump = 0; pump < plant.pumps; pump++) {
                if ((warmed >> pump & 1) == 1) {
                    giveBack(plant, pump);
                }
            }
            tick++;
        }

        private void giveOff(Plant plant) {
            for (int room = 0; room < plant.rooms; room++) {
                int share = plant.givenShare(room);
                for (int at = room * GASES; at < room * GASES + GASES; at++) {
                    int n = (int) ((long) onWall[at] * share / 1000);
                    onWall[at] -= n;
                    inside[at] += n;
                }
            }
        }

        private void leakIn(Plant plant) {
            for (int at = 0; at < plant.rooms * GASES; at++) {
                inside[at] += plant.leaking[at];
                told[at % GASES] += plant.leaking[at];
            }
        }

        /** The share goes by what was there before the pipes, and never more than is there now. */
        private void flow(Plant plant, int from, int to, int width) {
            long whole = 100 * plant.divisor(from);
            for (int gas = 0; gas < GASES; gas++) {
                int source = from * GASES + gas;
                long share = (long) before[source] * width / whole;
                int n = (int) Math.min(share, inside[source]);
                inside[source] -= n;
                inside[to * GASES + gas] += n;
            }
        }

        private void draw(Plant plant, int pump) {
            int room = plant.site[pump];
            long whole = 100 * plant.divisor(room);
            for (int gas = 0; gas < GASES; gas++) {
                int source = room * GASES + gas;
                long share = (long) inside[source] * plant.speed[pump * GASES + gas] / whole;
                if (plant.limit[pump] > 0) {
                    share = Math.min(share, plant.limit[pump] - held(pump));
                }
                inside[source] -= (int) share;
                taken[pump * GASES + gas] += (int) share;
            }
        }

        private void giveBack(Plant plant, int pump) {
            for (int gas = 0; gas < GASES; gas++) {
                int source = pump * GASES + gas;
                int n = (taken[source] + 9) / 10;
                taken[source] -= n;
                inside[plant.site[pump] * GASES + gas] += n;
            }
            if (held(pump) == 0) {
                warmed &= ~(1 << pump);
            }
        }

        private int held(int pump) {
            return taken[pump * GASES] + taken[pump * GASES + 1] + taken[pump * GASES + 2];
        }
    }

    /** The acts that may be undone and, behind them, those that may be done again. */
    private static final class Acts {
        static final int VALVE = 0;
        static final int PUMP = 1;
        static final int WARMING = 2;
        private static final int KEPT = 30;
        private final int[] kind = new int[KEPT];
        private final int[] number = new int[KEPT];
        private final int[] onBefore = new int[KEPT];
        int done;
        private int undone;

        void forget() {
            done = 0;
            undone = 0;
        }

        void perform(int newKind, int newNumber, Plant plant, Grains grains) {
            if (done == KEPT) {
                dropFirst();
            }
            kind[done] = newKind;
            number[done] = newNumber;
            onBefore[done] = plant.on;
            undone = 1;
            repeat(plant, grains);
            undone = 0;
        }

        boolean repeat(Plant plant, Grains grains) {
            if (undone <= 0 || done >= KEPT) {
                return false;
            }
            int bit = 1 << number[done];
            if (kind[done] == VALVE) {
                plant.open ^= bit;
            } else if (kind[done] == PUMP) {
                plant.on ^= bit;
            } else {
                plant.on &= ~bit;
                grains.warmed |= bit;
            }
            done++;
            undone--;
            return true;
        }

        boolean takeBack(Plant plant, Grains grains) {
            if (done <= 0) {
                return false;
            }
            done--;
            undone++;
            if (kind[done] == VALVE) {
                plant.open ^= 1 << number[done];
                return true;
            }
            plant.on = onBefore[done];
            if (kind[done] == WARMING) {
                grains.warmed &= ~(1 << number[done]);
            }
            return true;
        }

        private void dropFirst() {
            System.arraycopy(kind, 1, kind, 0, KEPT - 1);
            System.arraycopy(number, 1, number, 0, KEPT - 1);
            System.arraycopy(onBefore, 1, onBefore, 0, KEPT - 1);
            done = KEPT - 1;
        }
    }

    /** The text, and the steps that a rule in it is made into: facts first, then what joins them. */
    private static final class Reader {
        static final int NOT = 0;
        static final int AND = 1;
        static final int OR = 2;
        static final int COMPARE = 3;
        private static final int DEEPEST = 4;
        private static final int DIGITS = 5;
        private final int[] text = new int[TEXT];
        int length;
        int place;
        private int sign;
        boolean forPump;
        int target;
        final int[] steps = new int[TEXT];
        int used;

        int take(int n, long bytes) {
            for (int k = 0; k < n && length < TEXT; k++) {
                text[length] = (int) (bytes >>> 8 * k & 255);
                length++;
            }
            return length;
        }

        /** If not, place is where the first byte stands that can not stand. */
        boolean parses() {
            used = 0;
            place = -1;
            go();
            forPump = sign == 'P';
            if (!skip('P') && !skip('V')) {
                return false;
            }
            target = digit();
            if (target < 0) {
                return false;
            }
            go();
            return skip(':') && test(0) && place == length;
        }

        private boolean test(int deep) {
            if (!term(deep)) {
                return false;
            }
            for (int k = 0; k < TEXT && skip('|'); k++) {
                if (!term(deep)) {
                    return false;
                }
                add(OR);
            }
            return true;
        }

        private boolean term(int deep) {
            if (!part(deep)) {
                return false;
            }
            for (int k = 0; k < TEXT && skip('&'); k++) {
                if (!part(deep)) {
                    return false;
                }
                add(AND);
            }
            return true;
        }

        private boolean part(int deep) {
            boolean not = sign == '!';
            if (!not && sign != '(') {
                return comparison();
            }
            if (deep >= DEEPEST) {
                return false;
            }
            go();
            if (!not) {
                return test(deep + 1) && skip(')');
            }
            if (!part(deep + 1)) {
                return false;
            }
            add(NOT);
            return true;
        }

        private boolean comparison() {
            int fact = among('r', 'w', 'v', 'p', 't');
            if (fact < 0) {
                return false;
            }
            go();
            int which = 0;
            if (fact != Rules.TICK) {
                which = digit();
                if (which < 0) {
                    return false;
                }
                go();
            }
            int relation = among('<', '=', '>', '>', '>');
            if (relation < 0) {
                return false;
            }
            go();
            int number = number();
            if (number < 0) {
                return false;
            }
            add(COMPARE | fact << 2 | which << 5 | relation << 9 | number << 11);
            return true;
        }

        private int number() {
            int value = digit();
            if (value < 0) {
                return -1;
            }
            go();
            for (int k = 1; k < DIGITS && digit() >= 0; k++) {
                value = value * 10 + digit();
                go();
            }
            return value;
        }

        /** Which of these the sign is; -1 none. */
        private int among(int s0, int s1, int s2, int s3, int s4) {
            if (sign == s0) {
                return 0;
            }
            if (sign == s1) {
                return 1;
            }
            if (sign == s2) {
                return 2;
            }
            if (sign == s3) {
                return 3;
            }
            return sign == s4 ? 4 : -1;
        }

        private int digit() {
            return sign >= '0' && sign <= '9' ? sign - '0' : -1;
        }

        private boolean skip(int wanted) {
            if (sign != wanted) {
                return false;
            }
            go();
            return true;
        }

        /** To the next byte; behind the end stands the sign -1. */
        private void go() {
            place++;
            sign = place >= 0 && place < length && place < TEXT ? text[place] : -1;
        }

        private void add(int step) {
            if (used < TEXT) {
                steps[used] = step;
                used++;
            }
        }
    }

    /** The rules that stand, and what they forbid as things are. */
    private static final class Rules {
        static final int PUSH = 0;
        static final int WARMTH = 1;
        static final int VALVE = 2;
        static final int PUMP = 3;
        static final int TICK = 4;
        private final Plant plant;
        private final Grains grains;
        int made;
        int standing;
        private int forPumps;
        private final int[] target = new int[RULES];
        private final int[] used = new int[RULES];
        private final int[][] steps = new int[RULES][TEXT];

        Rules(Plant plant, Grains grains) {
            this.plant = plant;
            this.grains = grains;
        }

        int add(Reader reader) {
            if (made >= RULES) {
                return NONE;
            }
            target[made] = reader.target;
            used[made] = reader.used;
            System.arraycopy(reader.steps, 0, steps[made], 0, TEXT);
            standing |= 1 << made;
            forPumps |= reader.forPump ? 1 << made : 0;
            return made++;
        }

        boolean stands(int rule) {
            return (standing >> rule & 1) == 1;
        }

        void drop(int rule) {
            standing &= ~(1 << rule);
        }

        /** The least rule that forbids it while just these pumps are on. */
        int forbidder(int k, boolean pump, int on) {
            int concerned = standing & (pump ? forPumps : ~forPumps);
            for (int rule = 0; rule < made; rule++) {
                if ((concerned >> rule & 1) == 1 && target[rule] == k && holds(rule, on)) {
                    return rule;
                }
            }
            return NONE;
        }

        /** The bits of stack are the answers that wait to be joined, the latest lowest. */
        private boolean holds(int rule, int on) {
            long stack = 0;
            for (int k = 0; k < used[rule] && k < TEXT; k++) {
                int step = steps[rule][k];
                switch (step & 3) {
                    case Reader.NOT:
                        stack ^= 1;
                        break;
                    case Reader.AND:
                        stack = (stack >> 1) & (stack | ~1L);
                        break;
                    case Reader.OR:
                        stack = (stack >> 1) | (stack & 1);
                        break;
                    default:
                        stack = (stack << 1) | (compares(step, on) ? 1 : 0);
                        break;
                }
            }
            return (stack & 1) == 1;
        }

        private boolean compares(int step, int on) {
            int which = step >> 5 & 15;
            int value = 0;
            switch (step >> 2 & 7) {
                case PUSH:
                    value = which < plant.rooms ? grains.push(plant, which) : 0;
                    break;
                case WARMTH:
                    value = which < plant.rooms ? plant.warmth[which] : 0;
                    break;
                case VALVE:
                    value = plant.open >> which & 1;
                    break;
                case PUMP:
                    value = on >> which & 1;
                    break;
                default:
                    value = grains.tick;
                    break;
            }
            int number = step >> 11;
            switch (step >> 9 & 3) {
                case 0: return value < number;
                case 1: return value == number;
                default: return value > number;
            }
        }
    }

    /** In which order a set of pumps can be started. */
    private static final class Starts {
        private final Rules rules;
        /** By what has been started of the set: whether the rest of it can be. */
        private final boolean[] ends = new boolean[1 << PUMPS];

        Starts(Rules rules) {
            this.rules = rules;
        }

        int nth(int set, int i, int on, int warmed) {
            if (set <= 0 || set >= ends.length || (set & warmed) != 0 || i >= PUMPS) {
                return NONE;
            }
            ends[set] = true;
            for (int started = set - 1; started > 0; started--) {
                if ((started & ~set) == 0) {
                    ends[started] = next(set, started, on) != NONE;
                }
            }
            int started = 0;
            int pump = next(set, started, on);
            for (int k = 0; k < i && pump != NONE; k++) {
                started |= 1 << pump;
                pump = next(set, started, on);
            }
            return pump;
        }

        /** The least pump after whose start the rest of the set can be started; none of it: none. */
        private int next(int set, int started, int on) {
            for (int pump = 0; pump < PUMPS; pump++) {
                int bit = 1 << pump;
                boolean left = (set & ~started & bit) != 0;
                if (left && within(started | bit, ends.length) && ends[started | bit]
                        && rules.forbidder(pump, true, on | started) == NONE) {
                    return pump;
                }
            }
            return NONE;
        }
    }

    /** Pushes at rest, by sums solved exactly, and the offers that a plan is made of. */
    private static final class Rest {
        static final int OFFERS = 6;
        private final Plant plant;
        private final int[] speeds = new int[ROOMS];
        /** By room: the rooms that are reached from it through open pipes, as bits. */
        private final int[] reached = new int[ROOMS];
        private final long[] matrix = new long[ROOMS * ROOMS];
        private final long[] sides = new long[ROOMS];
        private final long[] minors = new long[1 << ROOMS];
        int offers;
        private final int[] site = new int[OFFERS];
        private final int[] offeredSpeed = new int[OFFERS];
        private final int[] price = new int[OFFERS];

        Rest(Plant plant) {
            this.plant = plant;
        }

        int addOffer(int room, int speed, int newPrice) {
            if (offers < OFFERS) {
                site[offers] = room;
                offeredSpeed[offers] = speed;
                price[offers] = newPrice;
                offers++;
            }
            return offers;
        }

        /** The push at rest as a fraction in least terms: above (part 0), below (1). */
        long fraction(int room, int gas, int part) {
            findReached();
            findSpeeds(gas, 0);
            if (isClosed(room)) {
                return NONE;
            }
            fill(gas);
            long above = determinant(room);
            long below = determinant(-1);
            long divisor = common(above, below);
            if (divisor == 0) {
                return NONE;
            }
            return (part == 0 ? above : below) / divisor;
        }

        /** The least price with which gas 0 rests at m or below (what 0), or its set (1). */
        int cheapest(int m, int what) {
            findReached();
            int leaky = leakyRooms();
            int best = NONE;
            int bestPrice = 0;
            for (int set = 0; set < 1 << offers; set++) {
                int cost = priceOf(set);
                if ((best == NONE || cost < bestPrice) && serves(set, leaky, m)) {
                    best = set;
                    bestPrice = cost;
                }
            }
            return what == 1 || best == NONE ? best : bestPrice;
        }

        private int priceOf(int set) {
            int sum = 0;
            for (int k = 0; k < offers; k++) {
                sum += (set >> k & 1) * price[k];
            }
            return sum;
        }

        private boolean serves(int set, int leaky, int m) {
            findSpeeds(0, set);
            for (int room = 0; room < plant.rooms; room++) {
                if ((leaky >> room & 1) == 1 && isClosed(room)) {
                    return false;
                }
            }
            fill(0);
            long most = m * determinant(-1);
            for (int room = 0; room < plant.rooms; room++) {
                if ((leaky >> room & 1) == 1 && determinant(room) > most) {
                    return false;
                }
            }
            return true;
        }

        /** The rooms that a leak of gas 0 reaches, as bits. */
        private int leakyRooms() {
            int leaky = 0;
            for (int room = 0; room < plant.rooms; room++) {
                leaky |= plant.leaking[room * GASES] > 0 ? reached[room] : 0;
            }
            return leaky;
        }

        private void findReached() {
            for (int room = 0; room < ROOMS; room++) {
                reached[room] = 1 << room;
            }
            for (int pipe = 0; pipe < plant.pipes; pipe++) {
                if ((plant.open >> pipe & 1) == 1) {
                    join(reached[plant.first[pipe]] | reached[plant.second[pipe]]);
                }
            }
        }

        private void join(int together) {
            for (int room = 0; room < ROOMS; room++) {
                if ((together >> room & 1) == 1) {
                    reached[room] = together;
                }
            }
        }

        private void findSpeeds(int gas, int set) {
            Arrays.fill(speeds, 0);
            for (int pump = 0; pump < plant.pumps; pump++) {
                int speed = plant.speed[pump * GASES + gas];
                speeds[plant.site[pump]] += (plant.on >> pump & 1) * speed;
            }
            for (int k = 0; k < offers; k++) {
                speeds[site[k]] += (set >> k & 1) * offeredSpeed[k];
            }
        }

        private boolean isClosed(int room) {
            for (int other = 0; other < ROOMS; other++) {
                if ((reached[room] >> other & 1) == 1 && speeds[other] > 0) {
                    return false;
                }
            }
            return true;
        }

        /** One row a room; a closed one, or none, gets a row that leaves the others as they are. */
        private void fill(int gas) {
            Arrays.fill(matrix, 0);
            for (int room = 0; room < ROOMS; room++) {
                boolean closed = isClosed(room);
                matrix[room * ROOMS + room] = closed ? 1 : speeds[room];
                sides[room] = closed ? 0 : plant.leaking[room * GASES + gas];
            }
            for (int pipe = 0; pipe < plant.pipes; pipe++) {
                int a = plant.first[pipe];
                int b = plant.second[pipe];
                if ((plant.open >> pipe & 1) == 1 && !isClosed(a)) {
                    matrix[a * ROOMS + a] += plant.width[pipe];
                    matrix[b * ROOMS + b] += plant.width[pipe];
                    matrix[a * ROOMS + b] -= plant.width[pipe];
                    matrix[b * ROOMS + a] -= plant.width[pipe];
                }
            }
        }

        /**
         * The matrix's determinant, with the leaks in the place of one column (-1: of none).
         * By the sets of columns that the rows from the first on use up: no division, so exact.
         */
        private long determinant(int replaced) {
            minors[0] = 1;
            for (int set = 1; set < minors.length; set++) {
                int row = Integer.bitCount(set) - 1;
                long sum = 0;
                for (int column = 0; column < ROOMS; column++) {
                    if ((set >> column & 1) == 1) {
                        long entry = column == replaced ? sides[row] : matrix[row * ROOMS + column];
                        long term = entry * minors[set ^ 1 << column];
                        boolean odd = (Integer.bitCount(set >> column) & 1) == 0;
                        sum += odd ? -term : term;
                    }
                }
                minors[set] = sum;
            }
            return minors[minors.length - 1];
        }

        private static long common(long a, long b) {
            long x = Math.abs(a);
            long y = Math.abs(b);
            for (int k = 0; k < 200 && y != 0; k++) {
                long left = x % y;
                x = y;
                y = left;
            }
            return x;
        }
    }

    /** The drawn pipe, and the walks through it. */
    private static final class Drawing {
        static final int SIDE = 5;
        private static final int SQUARES = SIDE * SIDE;
        private final boolean[] walls = new boolean[SQUARES];
        private final int[] here = new int[SQUARES];
        private final int[] then = new int[SQUARES];
        private int through;
        private int back;

        /** Whether that changed the square. */
        boolean draw(int x, int y, boolean wall) {
            int at = y * SIDE + x;
            boolean changed = walls[at] != wall;
            walls[at] = wall;
            return changed;
        }

        int ways(int y, int n, int what) {
            if (walls[y * SIDE]) {
                return what == 2 ? 1 << 2 * n : 0;
            }
            Arrays.fill(here, 0);
            here[y * SIDE] = 1;
            through = 0;
            back = 0;
            for (int k = 0; k < n; k++) {
                step();
            }
            if (what == 2) {
                return (1 << 2 * n) - through - back;
            }
            return what == 0 ? through : back;
        }

        private void step() {
            Arrays.fill(then, 0);
            through *= 4;
            back *= 4;
            for (int at = 0; at < SQUARES; at++) {
                if (here[at] > 0) {
                    go(at, at % SIDE - 1, at / SIDE);
                    go(at, at % SIDE + 1, at / SIDE);
                    go(at, at % SIDE, at / SIDE - 1);
                    go(at, at % SIDE, at / SIDE + 1);
                }
            }
            System.arraycopy(then, 0, here, 0, SQUARES);
        }

        private void go(int from, int x, int y) {
            if (x < 0) {
                back += here[from];
            } else if (x >= SIDE) {
                through += here[from];
            } else if (y < 0 || y >= SIDE || walls[y * SIDE + x]) {
                then[from] += here[from];
            } else {
                then[y * SIDE + x] += here[from];
            }
        }
    }

    /** What the gauges see, and what true gases their told readings leave open. */
    private static final class Gauges {
        static final int COUNT = 3;
        private static final int MOST = 40;
        final int[] sight = new int[COUNT * GASES];
        /** By gauge: its told reading; -1 if it is not asked. */
        final int[] asked = new int[COUNT];
        private final int[] least = new int[GASES];
        private final int[] greatest = new int[GASES];
        private int low;
        private int high;

        Gauges() {
            Arrays.fill(sight, 1);
            Arrays.fill(asked, -1);
        }

        int shown(int gauge, Grains grains, int room) {
            long sum = 0;
            for (int gas = 0; gas < GASES; gas++) {
                sum += (long) sight[gauge * GASES + gas] * grains.amount(room, gas, false);
            }
            return (int) Math.min(GREATEST, sum / 10);
        }

        int hidden() {
            int bits = 0;
            for (int gas = 0; gas < GASES; gas++) {
                boolean found = false;
                for (int gauge = 0; gauge < COUNT; gauge++) {
                    found |= asked[gauge] >= 0 && sight[gauge * GASES + gas] > 0;
                }
                bits |= found ? 0 : 1 << gas;
            }
            return bits;
        }

        /** How many true gases there may be (what 0), or the least (1 ..), greatest (4 ..) of one. */
        int possible(int doubt, int what) {
            Arrays.fill(least, MOST + 1);
            Arrays.fill(greatest, NONE);
            int sum = 0;
            for (int g0 = 0; g0 <= MOST; g0++) {
                for (int g1 = 0; g1 <= MOST; g1++) {
                    bound(doubt, g0, g1);
                    if (low <= high) {
                        sum += high - low + 1;
                        note(0, g0, g0);
                        note(1, g1, g1);
                        note(2, low, high);
                    }
                }
            }
            if (what == 0) {
                return sum;
            }
            if (what >= 1 && what <= GASES) {
                return sum == 0 ? NONE : least[what - 1];
            }
            return what > GASES && what <= 2 * GASES ? greatest[what - 1 - GASES] : NONE;
        }

        private void note(int gas, int from, int to) {
            least[gas] = Math.min(least[gas], from);
            greatest[gas] = Math.max(greatest[gas], to);
        }

        /** Between low and high gas 2 may be, with so much of the other two. */
        private void bound(int doubt, int g0, int g1) {
            low = 0;
            high = MOST;
            for (int gauge = 0; gauge < COUNT; gauge++) {
                if (asked[gauge] >= 0) {
                    int others = sight[gauge * GASES] * g0 + sight[gauge * GASES + 1] * g1;
                    int from = 10 * (asked[gauge] - doubt) - others;
                    int to = 10 * (asked[gauge] + doubt) + 9 - others;
                    narrow(sight[gauge * GASES + 2], from, to);
                }
            }
        }

        /** That times so much sight is from .. to. */
        private void narrow(int sightOfIt, int from, int to) {
            if (sightOfIt > 0) {
                low = Math.max(low, -Math.floorDiv(-from, sightOfIt));
                high = Math.min(high, Math.floorDiv(to, sightOfIt));
            } else if (from > 0 || to < 0) {
                high = -1;
            }
        }
    }

    /** The stages of cold. */
    private static final class Cold {
        static final int STAGES = 4;
        static final int WARMEST = 300;
        static final int HOTTEST = 9999;
        private final int[] floor = new int[STAGES];
        private final int[] power = new int[STAGES];
        private final int[] wire = new int[STAGES];
        private final int[] heat = new int[STAGES];

        Cold() {
            Arrays.fill(power, 1);
        }

        void tell(int k, int newFloor, int newPower, int newWire, int newHeat) {
            floor[k] = newFloor;
            power[k] = newPower;
            wire[k] = newWire;
            heat[k] = newHeat;
        }

        int degree(int k) {
            int ahead = WARMEST;
            for (int stage = 0; stage <= k && ahead != NONE; stage++) {
                ahead = degreeUnder(stage, ahead);
            }
            return ahead;
        }

        int bearable(int k, int mark) {
            int ahead = k == 0 ? WARMEST : degree(k - 1);
            if (ahead == NONE || mark < floor[k]) {
                return NONE;
            }
            int most = spare(k, ahead, mark);
            return most < 0 ? NONE : Math.min(HOTTEST, most);
        }

        private int degreeUnder(int stage, int ahead) {
            for (int at = floor[stage]; at <= WARMEST; at++) {
                if (spare(stage, ahead, at) >= heat[stage]) {
                    return at;
                }
            }
            return NONE;
        }

        /** What a stage at a degree carries off beyond what its wire brings; more the warmer it is. */
        private int spare(int stage, int ahead, int at) {
            return power[stage] * (at - floor[stage]) - wire[stage] * Math.max(0, ahead - at);
        }
    }

    /** The hunt for leaks: what was sprayed, what was seen, and which sets of leaks fit. */
    private static final class Search {
        static final int PLACES = 8;
        static final int MOST = 20;
        final int[] delay = new int[PLACES];
        int sprays;
        private final int[] sprayPlace = new int[MOST];
        private final int[] sprayTick = new int[MOST];
        int sights;
        private final int[] sightTick = new int[MOST];
        private final boolean[] sightSome = new boolean[MOST];
        /** By sight: the places that would have been seen then. */
        private final int[] shown = new int[MOST];
        private final int[] having = new int[PLACES];

        Search() {
            Arrays.fill(delay, 3);
        }

        int addSpray(int place, int tick) {
            if (sprays < MOST) {
                sprayPlace[sprays] = place;
                sprayTick[sprays] = tick;
                sprays++;
            }
            return sprays;
        }

        int addSight(int tick, boolean some) {
            if (sights < MOST) {
                sightTick[sights] = tick;
                sightSome[sights] = some;
                sights++;
            }
            return sights;
        }

        /** 0 how many sets fit, 1 places in all of them, 2 in none of them, 3 the next to spray. */
        int found(int what) {
            int fitting = countFitting();
            if (what == 0) {
                return fitting;
            }
            if (what == 3) {
                return nextPlace(fitting);
            }
            int bits = 0;
            for (int place = 0; place < PLACES; place++) {
                boolean sure = having[place] == (what == 1 ? fitting : 0);
                bits |= sure && fitting > 0 ? 1 << place : 0;
            }
            return bits;
        }

        private int countFitting() {
            findShown();
            Arrays.fill(having, 0);
            int fitting = 0;
            for (int set = 0; set < 1 << PLACES; set++) {
                if (Integer.bitCount(set) <= 2 && fits(set)) {
                    fitting++;
                    for (int place = 0; place < PLACES; place++) {
                        having[place] += set >> place & 1;
                    }
                }
            }
            return fitting;
        }

        private void findShown() {
            for (int sight = 0; sight < sights; sight++) {
                shown[sight] = 0;
                for (int spray = 0; spray < sprays; spray++) {
                    int place = sprayPlace[spray];
                    boolean then = sprayTick[spray] == sightTick[sight] - delay[place];
                    shown[sight] |= then ? 1 << place : 0;
                }
            }
        }

        private boolean fits(int set) {
            for (int sight = 0; sight < sights; sight++) {
                if (((set & shown[sight]) != 0) != sightSome[sight]) {
                    return false;
                }
            }
            return true;
        }

        private int nextPlace(int fitting) {
            int best = NONE;
            int bestGreater = fitting;
            for (int place = 0; place < PLACES; place++) {
                int greater = Math.max(having[place], fitting - having[place]);
                if (greater < bestGreater) {
                    best = place;
                    bestGreater = greater;
                }
            }
            return best;
        }
    }
}
