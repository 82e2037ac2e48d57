import java.math.BigInteger;
import java.util.ArrayList;
import java.util.List;

/**
 * The document told again, slowly and without any shortcut, for the tests to compare with:
 * whole lists of what is told, tries of all that is possible, fractions of any length.
 */
final class SlowModel {
    static final class Room {
        int size;
        int stuff;
        int warmth = 5;
        long[] inside = new long[3];
        long[] wall = new long[3];
        int[] leak = new int[3];
    }

    static final class Pump {
        Room room;
        int[] speed;
        int limit;
        boolean on;
        boolean warmed;
        long[] taken = new long[3];
    }

    static final class Pipe {
        Room a;
        Room b;
        int width;
        boolean open;
    }

    final List<Room> rooms = new ArrayList<>();
    final List<Pipe> pipes = new ArrayList<>();
    final List<Pump> pumps = new ArrayList<>();
    final int[][] given = new int[4][10];
    final long[] told = new long[3];
    int tick;
    String text = "";
    final List<String> rules = new ArrayList<>();
    final List<int[]> offers = new ArrayList<>();
    List<int[]> states = new ArrayList<>();
    int state;
    final boolean[][] wall = new boolean[5][5];
    final int[][] sight = {{1, 1, 1}, {1, 1, 1}, {1, 1, 1}};
    final int[] asked = {-1, -1, -1};
    final int[][] stages = {{0, 1, 0, 0}, {0, 1, 0, 0}, {0, 1, 0, 0}, {0, 1, 0, 0}};
    final int[] late = {3, 3, 3, 3, 3, 3, 3, 3};
    final List<int[]> sprays = new ArrayList<>();
    final List<int[]> sights = new ArrayList<>();
    final int[] refused = new int[8];

    SlowModel() {
        forget();
    }

    private int no(int number) {
        refused[-number]++;
        return number;
    }

    /** The words' order: -1, -2, -3, -4, -6, -7; null where none fits. */
    private Integer first(boolean nobody, boolean other, boolean below, boolean above) {
        if (nobody) {
            return no(-1);
        }
        if (other) {
            return no(-2);
        }
        if (below) {
            return no(-4);
        }
        return above ? no(-6) : null;
    }

    private static boolean out(int n, int least, int greatest) {
        return n < least || n > greatest;
    }

    // ---- acts, as whole states before and after ----

    private int[] stateNow() {
        int[] now = new int[3];
        for (int k = 0; k < pipes.size(); k++) {
            now[0] |= pipes.get(k).open ? 1 << k : 0;
        }
        for (int k = 0; k < pumps.size(); k++) {
            now[1] |= pumps.get(k).on ? 1 << k : 0;
            now[2] |= pumps.get(k).warmed ? 1 << k : 0;
        }
        return now;
    }

    private void put(int[] now) {
        for (int k = 0; k < pipes.size(); k++) {
            pipes.get(k).open = (now[0] >> k & 1) == 1;
        }
        for (int k = 0; k < pumps.size(); k++) {
            pumps.get(k).on = (now[1] >> k & 1) == 1;
            pumps.get(k).warmed = (now[2] >> k & 1) == 1;
        }
    }

    private void forget() {
        states = new ArrayList<>();
        states.add(stateNow());
        state = 0;
    }

    private int acted() {
        states = new ArrayList<>(states.subList(0, state + 1));
        states.add(stateNow());
        if (states.size() > 31) {
            states.remove(0);
        }
        state = states.size() - 1;
        return 1;
    }

    int undo() {
        if (state == 0) {
            return no(-3);
        }
        put(states.get(--state));
        return 1;
    }

    int redo() {
        if (state == states.size() - 1) {
            return no(-3);
        }
        put(states.get(++state));
        return 1;
    }

    // ---- I ----

    int room(int size, int stuff) {
        Integer no = first(out(stuff, 0, 3), false, size < 1, size > 99 || rooms.size() == 5);
        if (no != null) {
            return no;
        }
        Room room = new Room();
        room.size = size;
        room.stuff = stuff;
        rooms.add(room);
        forget();
        return rooms.size() - 1;
    }

    private boolean noRoom(int room) {
        return out(room, 0, rooms.size() - 1);
    }

    int warm(int room, int v) {
        Integer no = first(noRoom(room), false, v < 0, v > 9);
        if (no != null) {
            return no;
        }
        int was = rooms.get(room).warmth;
        rooms.get(room).warmth = v;
        forget();
        return was;
    }

    int gas(int room, int gas, int n, boolean onWall) {
        boolean nobody = noRoom(room) || out(gas, 0, 2);
        long[] place = nobody ? null : onWall ? rooms.get(room).wall : rooms.get(room).inside;
        Integer no = first(nobody, false, n < 1, n > 99999 || !nobody && place[gas] + n > 999999);
        if (no != null) {
            return no;
        }
        place[gas] += n;
        told[gas] += n;
        forget();
        return (int) place[gas];
    }

    int gives(int stuff, int warmth, int v) {
        Integer no = first(out(stuff, 0, 3) || out(warmth, 0, 9), false, v < 0, v > 500);
        if (no != null) {
            return no;
        }
        int was = given[stuff][warmth];
        given[stuff][warmth] = v;
        forget();
        return was;
    }

    int pipe(int a, int b, int width) {
        Integer no = first(noRoom(a) || noRoom(b) || a == b, false, width < 1,
                width > 9 || pipes.size() == 12);
        if (no != null) {
            return no;
        }
        Pipe pipe = new Pipe();
        pipe.a = rooms.get(a);
        pipe.b = rooms.get(b);
        pipe.width = width;
        pipes.add(pipe);
        forget();
        return pipes.size() - 1;
    }

    int pump(int room, int s0, int s1, int s2, int limit) {
        Integer no = first(noRoom(room), false, s0 < 0 || s1 < 0 || s2 < 0 || limit < 0,
                s0 > 9 || s1 > 9 || s2 > 9 || limit > 99999 || pumps.size() == 8);
        if (no != null) {
            return no;
        }
        Pump pump = new Pump();
        pump.room = rooms.get(room);
        pump.speed = new int[] {s0, s1, s2};
        pump.limit = limit;
        pumps.add(pump);
        forget();
        return pumps.size() - 1;
    }

    int leak(int room, int gas, int n) {
        Integer no = first(noRoom(room) || out(gas, 0, 2), false, n < 0, n > 999);
        if (no != null) {
            return no;
        }
        int was = rooms.get(room).leak[gas];
        rooms.get(room).leak[gas] = n;
        forget();
        return was;
    }

    int ticks(int n) {
        Integer no = first(false, false, n < 1, n > 200 || tick + (long) n > 5000);
        if (no != null) {
            return no;
        }
        for (int k = 0; k < n; k++) {
            pass();
        }
        forget();
        return tick;
    }

    private void pass() {
        for (Room room : rooms) {
            for (int gas = 0; gas < 3; gas++) {
                long off = room.wall[gas] * given[room.stuff][room.warmth] / 1000;
                room.wall[gas] -= off;
                room.inside[gas] += off + room.leak[gas];
                told[gas] += room.leak[gas];
            }
        }
        long[][] before = new long[rooms.size()][];
        for (int k = 0; k < before.length; k++) {
            before[k] = rooms.get(k).inside.clone();
        }
        for (Pipe pipe : pipes) {
            for (int way = 0; way < 2 && pipe.open; way++) {
                Room from = way == 0 ? pipe.a : pipe.b;
                Room to = way == 0 ? pipe.b : pipe.a;
                for (int gas = 0; gas < 3; gas++) {
                    long was = before[rooms.indexOf(from)][gas];
                    long n = Math.min(was * pipe.width / (100 * from.size), from.inside[gas]);
                    from.inside[gas] -= n;
                    to.inside[gas] += n;
                }
            }
        }
        for (Pump pump : pumps) {
            for (int gas = 0; gas < 3 && pump.on; gas++) {
                long n = pump.room.inside[gas] * pump.speed[gas] / (100 * pump.room.size);
                if (pump.limit > 0) {
                    n = Math.min(n, pump.limit - pump.taken[0] - pump.taken[1] - pump.taken[2]);
                }
                pump.room.inside[gas] -= n;
                pump.taken[gas] += n;
            }
        }
        for (Pump pump : pumps) {
            for (int gas = 0; gas < 3 && pump.warmed; gas++) {
                long n = pump.taken[gas] / 10 + (pump.taken[gas] % 10 > 0 ? 1 : 0);
                pump.taken[gas] -= n;
                pump.room.inside[gas] += n;
            }
            pump.warmed &= pump.taken[0] > 0 || pump.taken[1] > 0 || pump.taken[2] > 0;
        }
        tick++;
    }

    private static int push(Room room) {
        long sum = room.inside[0] + room.inside[1] + room.inside[2];
        return (int) Math.min(2000000000L, sum * 100 / room.size);
    }

    int in(int room, int gas, int where) {
        Integer no = first(noRoom(room) || out(gas, 0, 2), out(where, 0, 2), false, false);
        if (no != null) {
            return no;
        }
        Room it = rooms.get(room);
        return where == 0 ? (int) it.inside[gas] : where == 1 ? (int) it.wall[gas] : push(it);
    }

    int pumpOf(int pump, int what) {
        Integer no = first(out(pump, 0, pumps.size() - 1), out(what, 0, 5), false, false);
        if (no != null) {
            return no;
        }
        Pump it = pumps.get(pump);
        switch (what) {
            case 0: return it.on ? 1 : 0;
            case 4: return it.warmed ? 1 : 0;
            case 5: return it.limit;
            default: return (int) it.taken[what - 1];
        }
    }

    int all(int gas, int what) {
        Integer no = first(out(gas, 0, 2), out(what, 0, 4), false, false);
        if (no != null) {
            return no;
        }
        long in = told[gas];
        long pumped = 0;
        long trapped = 0;
        long inside = 0;
        for (Pump pump : pumps) {
            pumped += pump.limit == 0 ? pump.taken[gas] : 0;
            trapped += pump.limit > 0 ? pump.taken[gas] : 0;
        }
        for (Room room : rooms) {
            inside += room.inside[gas];
        }
        // Nothing is lost, so the walls have the rest.
        long[] each = {in, pumped, inside, in - pumped - trapped - inside, trapped};
        return (int) each[what];
    }

    int when(int room, int mark, int most) {
        Integer no = first(noRoom(room), false, mark < 0 || most < 1, mark > 999999 || most > 300);
        if (no != null) {
            return no;
        }
        SlowModel copy = copyOfRooms();
        for (int k = 0; k < most && copy.tick < 5000; k++) {
            copy.pass();
            if (push(copy.rooms.get(room)) < mark) {
                return copy.tick;
            }
        }
        return -9;
    }

    private SlowModel copyOfRooms() {
        SlowModel copy = new SlowModel();
        copy.tick = tick;
        for (int k = 0; k < 4; k++) {
            copy.given[k] = given[k];
        }
        for (Room room : rooms) {
            Room r = new Room();
            r.size = room.size;
            r.stuff = room.stuff;
            r.warmth = room.warmth;
            r.inside = room.inside.clone();
            r.wall = room.wall.clone();
            r.leak = room.leak;
            copy.rooms.add(r);
        }
        for (Pipe pipe : pipes) {
            Pipe p = new Pipe();
            p.a = copy.rooms.get(rooms.indexOf(pipe.a));
            p.b = copy.rooms.get(rooms.indexOf(pipe.b));
            p.width = pipe.width;
            p.open = pipe.open;
            copy.pipes.add(p);
        }
        for (Pump pump : pumps) {
            Pump p = new Pump();
            p.room = copy.rooms.get(rooms.indexOf(pump.room));
            p.speed = pump.speed;
            p.limit = pump.limit;
            p.on = pump.on;
            p.warmed = pump.warmed;
            p.taken = pump.taken.clone();
            copy.pumps.add(p);
        }
        return copy;
    }

    // ---- II ----

    int feed(int n, long bytes) {
        Integer no = first(false, false, n < 1, n > 8 || text.length() + (long) n > 40);
        if (no != null) {
            return no;
        }
        for (int k = 0; k < n; k++) {
            text += (char) (bytes >> 8 * k & 255);
        }
        return text.length();
    }

    int rule() {
        if (rules.size() == 16) {
            return no(-6);
        }
        int fault = SlowRule.fault(text);
        if (fault < 0) {
            rules.add(text);
        }
        text = "";
        return fault < 0 ? rules.size() - 1 : -20 - fault;
    }

    int unrule(int rule) {
        if (out(rule, 0, rules.size() - 1) || rules.get(rule) == null) {
            return no(-1);
        }
        rules.set(rule, null);
        return 1;
    }

    private int leastForbidding(int k, boolean pump) {
        for (int rule = 0; rule < rules.size(); rule++) {
            String all = rules.get(rule);
            if (all != null && all.startsWith((pump ? "P" : "V") + k + ":")
                    && SlowRule.holds(all.substring(3), this)) {
                return rule;
            }
        }
        return -9;
    }

    int fact(char sign, int which) {
        switch (sign) {
            case 'r': return which < rooms.size() ? push(rooms.get(which)) : 0;
            case 'w': return which < rooms.size() ? rooms.get(which).warmth : 0;
            case 'v': return which < pipes.size() && pipes.get(which).open ? 1 : 0;
            case 'p': return which < pumps.size() && pumps.get(which).on ? 1 : 0;
            default: return tick;
        }
    }

    int forbids(int k, boolean pump) {
        Integer no = first(out(k, 0, (pump ? pumps.size() : pipes.size()) - 1), false, false, false);
        return no != null ? no : leastForbidding(k, pump);
    }

    int valve(int pipe, boolean open) {
        if (out(pipe, 0, pipes.size() - 1)) {
            return no(-1);
        }
        if (pipes.get(pipe).open == open) {
            return 0;
        }
        if (open && leastForbidding(pipe, false) >= 0) {
            return no(-7);
        }
        pipes.get(pipe).open = open;
        return acted();
    }

    int start(int pump, boolean on) {
        if (out(pump, 0, pumps.size() - 1)) {
            return no(-1);
        }
        Pump it = pumps.get(pump);
        if (it.on == on) {
            return 0;
        }
        if (on && it.warmed) {
            return no(-3);
        }
        if (on && leastForbidding(pump, true) >= 0) {
            return no(-7);
        }
        it.on = on;
        return acted();
    }

    int warmUp(int pump) {
        if (out(pump, 0, pumps.size() - 1)) {
            return no(-1);
        }
        Pump it = pumps.get(pump);
        if (it.limit == 0) {
            return no(-3);
        }
        if (it.warmed) {
            return 0;
        }
        it.warmed = true;
        it.on = false;
        return acted();
    }

    int order(int set, int i) {
        boolean nobody = set < 0 || set >= 1 << pumps.size();
        for (int k = 0; k < pumps.size(); k++) {
            nobody |= (set >> k & 1) == 1 && pumps.get(k).on;
        }
        Integer no = first(nobody, false, i < 0, Integer.bitCount(set) > 6);
        if (no != null) {
            return no;
        }
        List<Integer> order = orderOf(set);
        return order != null && i < order.size() ? order.get(i) : -9;
    }

    /** Tries the ways one after the other, by numbers. */
    private List<Integer> orderOf(int set) {
        if (set == 0) {
            return new ArrayList<>();
        }
        for (int k = 0; k < pumps.size(); k++) {
            Pump pump = pumps.get(k);
            if ((set >> k & 1) == 1 && !pump.warmed && leastForbidding(k, true) < 0) {
                pump.on = true;
                List<Integer> rest = orderOf(set & ~(1 << k));
                pump.on = false;
                if (rest != null) {
                    rest.add(0, k);
                    return rest;
                }
            }
        }
        return null;
    }

    // ---- III ----

    private boolean reaches(Room from, Room to) {
        List<Room> seen = new ArrayList<>();
        seen.add(from);
        for (int k = 0; k < seen.size(); k++) {
            for (Pipe pipe : pipes) {
                Room other = pipe.a == seen.get(k) ? pipe.b : pipe.b == seen.get(k) ? pipe.a : null;
                if (pipe.open && other != null && !seen.contains(other)) {
                    seen.add(other);
                }
            }
        }
        return seen.contains(to);
    }

    private int speed(Room room, int gas, int offered) {
        int sum = 0;
        for (Pump pump : pumps) {
            sum += pump.on && pump.room == room ? pump.speed[gas] : 0;
        }
        for (int k = 0; k < offers.size(); k++) {
            boolean bought = (offered >> k & 1) == 1 && rooms.get(offers.get(k)[0]) == room;
            sum += bought ? offers.get(k)[1] : 0;
        }
        return sum;
    }

    /** Above and below of a room's push at rest; null if it is closed. Gauss, with the room last. */
    private BigInteger[] atRest(Room room, int gas, int offered) {
        List<Room> part = new ArrayList<>();
        boolean closed = true;
        for (Room other : rooms) {
            if (reaches(room, other)) {
                closed &= speed(other, gas, offered) == 0;
                if (other != room) {
                    part.add(other);
                }
            }
        }
        part.add(room);
        return closed ? null : solveLast(rows(part, gas, offered));
    }

    private BigInteger[][] rows(List<Room> part, int gas, int offered) {
        int n = part.size();
        long[][] rows = new long[n][n + 1];
        for (int i = 0; i < n; i++) {
            rows[i][i] = speed(part.get(i), gas, offered);
            rows[i][n] = part.get(i).leak[gas];
            for (Pipe pipe : pipes) {
                boolean ours = pipe.a == part.get(i) || pipe.b == part.get(i);
                if (pipe.open && ours) {
                    Room other = pipe.a == part.get(i) ? pipe.b : pipe.a;
                    rows[i][i] += pipe.width;
                    rows[i][part.indexOf(other)] -= pipe.width;
                }
            }
        }
        BigInteger[][] big = new BigInteger[n][n + 1];
        for (int i = 0; i < n; i++) {
            for (int j = 0; j <= n; j++) {
                big[i][j] = BigInteger.valueOf(rows[i][j]);
            }
        }
        return big;
    }

    private static BigInteger[] solveLast(BigInteger[][] rows) {
        int n = rows.length;
        for (int k = 0; k < n; k++) {
            for (int i = k + 1; i < n; i++) {
                BigInteger by = rows[i][k];
                for (int j = 0; j <= n; j++) {
                    rows[i][j] = rows[i][j].multiply(rows[k][k]).subtract(rows[k][j].multiply(by));
                }
            }
        }
        BigInteger above = rows[n - 1][n];
        BigInteger below = rows[n - 1][n - 1];
        BigInteger common = above.gcd(below).multiply(BigInteger.valueOf(below.signum()));
        return new BigInteger[] {above.divide(common), below.divide(common)};
    }

    long rest(int room, int gas, int part) {
        Integer no = first(noRoom(room) || out(gas, 0, 2), out(part, 0, 1), false, false);
        if (no != null) {
            return no;
        }
        BigInteger[] x = atRest(rooms.get(room), gas, 0);
        return x == null ? -9 : x[part].longValueExact();
    }

    int square(int x, int y, boolean isWall) {
        if (out(x, 0, 4) || out(y, 0, 4)) {
            return no(-1);
        }
        boolean was = wall[x][y];
        wall[x][y] = isWall;
        return was == isWall ? 0 : 1;
    }

    int walks(int y, int n, int what) {
        Integer no = first(out(y, 0, 4), out(what, 0, 2), n < 1, n > 12);
        if (no != null) {
            return no;
        }
        if (wall[0][y]) {
            return what == 2 ? (int) Math.pow(4, n) : 0;
        }
        return walk(0, y, n)[what];
    }

    /** Every way step by step: through, back, still in it. */
    private int[] walk(int x, int y, int n) {
        if (x > 4 || x < 0) {
            int all = (int) Math.pow(4, n);
            return x > 4 ? new int[] {all, 0, 0} : new int[] {0, all, 0};
        }
        if (n == 0) {
            return new int[] {0, 0, 1};
        }
        int[] sum = new int[3];
        int[][] ways = {{1, 0}, {-1, 0}, {0, 1}, {0, -1}};
        for (int[] way : ways) {
            int toX = x + way[0];
            int toY = y + way[1];
            boolean stays = toY < 0 || toY > 4 || toX >= 0 && toX <= 4 && wall[toX][toY];
            int[] then = stays ? walk(x, y, n - 1) : walk(toX, toY, n - 1);
            for (int k = 0; k < 3; k++) {
                sum[k] += then[k];
            }
        }
        return sum;
    }

    // ---- IV ----

    int sees(int gauge, int gas, int v) {
        Integer no = first(out(gauge, 0, 2) || out(gas, 0, 2), false, v < 0, v > 9);
        if (no != null) {
            return no;
        }
        int was = sight[gauge][gas];
        sight[gauge][gas] = v;
        return was;
    }

    private int shows(int gauge, long g0, long g1, long g2) {
        long sum = sight[gauge][0] * g0 + sight[gauge][1] * g1 + sight[gauge][2] * g2;
        return (int) Math.min(2000000000L, sum / 10);
    }

    int reads(int gauge, int room) {
        if (out(gauge, 0, 2) || noRoom(room)) {
            return no(-1);
        }
        long[] g = rooms.get(room).inside;
        return shows(gauge, g[0], g[1], g[2]);
    }

    int reading(int gauge, int v) {
        Integer no = first(out(gauge, 0, 2), false, v < -1, v > 9999);
        if (no != null) {
            return no;
        }
        asked[gauge] = v;
        return 1;
    }

    int trueGas(int doubt, int what) {
        Integer no = first(false, out(what, 0, 7), doubt < 0, doubt > 9);
        if (no != null) {
            return no;
        }
        int[] answers = {0, 99, 99, 99, -9, -9, -9, 7};
        for (int g = 0; g < 41 * 41 * 41; g++) {
            int[] each = {g / 41 / 41, g / 41 % 41, g % 41};
            boolean fits = true;
            for (int k = 0; k < 3; k++) {
                int off = shows(k, each[0], each[1], each[2]) - asked[k];
                fits &= asked[k] < 0 || Math.abs(off) <= doubt;
            }
            for (int k = 0; k < 3 && fits; k++) {
                answers[1 + k] = Math.min(answers[1 + k], each[k]);
                answers[4 + k] = Math.max(answers[4 + k], each[k]);
            }
            answers[0] += fits ? 1 : 0;
        }
        for (int k = 0; k < 9; k++) {
            if (asked[k / 3] >= 0 && sight[k / 3][k % 3] > 0) {
                answers[7] &= ~(1 << k % 3);
            }
        }
        return answers[what] == 99 ? -9 : answers[what];
    }

    int stage(int k, int floor, int power, int wire, int heat) {
        Integer no = first(out(k, 0, 3), false, floor < 0 || power < 1 || wire < 0 || heat < 0,
                floor > 299 || power > 99 || wire > 99 || heat > 9999);
        if (no != null) {
            return no;
        }
        stages[k] = new int[] {floor, power, wire, heat};
        return 1;
    }

    private int degree(int k) {
        int ahead = k == 0 ? 300 : degree(k - 1);
        int[] s = stages[k];
        for (int it = s[0]; it <= 300 && ahead >= 0; it++) {
            int wired = ahead > it ? s[2] * (ahead - it) : 0;
            if (s[1] * (it - s[0]) >= wired + s[3]) {
                return it;
            }
        }
        return -9;
    }

    int restCold(int k) {
        return out(k, 0, 3) ? no(-1) : degree(k);
    }

    int load(int k, int mark) {
        Integer no = first(out(k, 0, 3), false, mark < 0, mark > 300);
        if (no != null) {
            return no;
        }
        int[] was = stages[k];
        int best = -9;
        for (int heat = 0; heat <= 9999; heat++) {
            stages[k] = new int[] {was[0], was[1], was[2], heat};
            int rests = degree(k);
            if (rests >= 0 && rests <= mark) {
                best = heat;
            }
        }
        stages[k] = was;
        return best;
    }

    // ---- V ----

    int late(int place, int n) {
        Integer no = first(out(place, 0, 7), false, n < 0, n > 20);
        if (no != null) {
            return no;
        }
        int was = late[place];
        late[place] = n;
        return was;
    }

    int spray(int place, int at) {
        Integer no = first(out(place, 0, 7), false, at < 0, at > 9999 || sprays.size() == 20);
        if (no != null) {
            return no;
        }
        sprays.add(new int[] {place, at});
        return sprays.size();
    }

    int seen(int at, boolean some) {
        Integer no = first(false, false, at < 0, at > 9999 || sights.size() == 20);
        if (no != null) {
            return no;
        }
        sights.add(new int[] {at, some ? 1 : 0});
        return sights.size();
    }

    int anew() {
        int both = sprays.size() + sights.size();
        sprays.clear();
        sights.clear();
        return both;
    }

    private boolean fits(List<Integer> set) {
        for (int[] sight : sights) {
            boolean shown = false;
            for (int[] spray : sprays) {
                shown |= set.contains(spray[0]) && spray[1] + late[spray[0]] == sight[0];
            }
            if (shown != (sight[1] == 1)) {
                return false;
            }
        }
        return true;
    }

    int hunt(int what) {
        if (out(what, 0, 3)) {
            return no(-2);
        }
        List<List<Integer>> fitting = new ArrayList<>();
        for (int a = -1; a < 8; a++) {
            for (int b = a; b < 8; b++) {
                List<Integer> set = a == b && a >= 0 ? List.of(a) : a < 0 ? List.of() : List.of(a, b);
                if ((a >= 0 || b < 0) && fits(set)) {
                    fitting.add(set);
                }
            }
        }
        int sure = 0;
        int sureNot = 0;
        int next = -9;
        int nextGreater = 99;
        for (int place = 0; place < 8; place++) {
            int have = 0;
            for (List<Integer> set : fitting) {
                have += set.contains(place) ? 1 : 0;
            }
            int dont = fitting.size() - have;
            sure |= have > 0 && dont == 0 ? 1 << place : 0;
            sureNot |= have == 0 && dont > 0 ? 1 << place : 0;
            if (have > 0 && dont > 0 && Math.max(have, dont) < nextGreater) {
                next = place;
                nextGreater = Math.max(have, dont);
            }
        }
        return new int[] {fitting.size(), sure, sureNot, next}[what];
    }

    long odds(int parts, int bad, int taken, int c, int part) {
        Integer no = first(false, out(part, 0, 1), parts < 1 || bad < 0 || taken < 0 || c < 0,
                parts > 30 || bad > parts || taken > 20 || taken > parts || c > taken);
        if (no != null) {
            return no;
        }
        // Part by part: how many ways there are with so many taken, so many bad ones among them.
        long[][] ways = new long[taken + 2][taken + 2];
        ways[0][0] = 1;
        for (int k = 0; k < parts; k++) {
            for (int n = taken; n >= 0; n--) {
                for (int b = n; b >= 0; b--) {
                    ways[n + 1][b + (k < bad ? 1 : 0)] += ways[n][b];
                }
            }
        }
        long sum = 0;
        for (int b = 0; b <= taken; b++) {
            sum += part == 1 || b <= c ? ways[taken][b] : 0;
        }
        return sum;
    }

    int offer(int room, int speed, int price) {
        Integer no = first(noRoom(room), false, speed < 1 || price < 1,
                speed > 9 || price > 999 || offers.size() == 6);
        if (no != null) {
            return no;
        }
        offers.add(new int[] {room, speed, price});
        return offers.size();
    }

    int plan(int m, int what) {
        Integer no = first(false, out(what, 0, 1), m < 0, m > 9999);
        if (no != null) {
            return no;
        }
        int best = -9;
        int bestPrice = 99999;
        for (int set = (1 << offers.size()) - 1; set >= 0; set--) {
            int price = 0;
            for (int k = 0; k < offers.size(); k++) {
                price += (set >> k & 1) == 1 ? offers.get(k)[2] : 0;
            }
            if (price <= bestPrice && rests(set, m)) {
                best = set;
                bestPrice = price;
            }
        }
        return best < 0 || what == 1 ? best : bestPrice;
    }

    private boolean rests(int set, int m) {
        for (Room leaky : rooms) {
            for (Room room : rooms) {
                if (leaky.leak[0] > 0 && reaches(leaky, room)) {
                    BigInteger[] x = atRest(room, 0, set);
                    if (x == null || x[0].compareTo(x[1].multiply(BigInteger.valueOf(m))) > 0) {
                        return false;
                    }
                }
            }
        }
        return true;
    }

    int count(int what) {
        int[] now = stateNow();
        int standing = 0;
        for (String rule : rules) {
            standing += rule != null ? 1 : 0;
        }
        int[] counts = {tick, rooms.size(), pipes.size(), Integer.bitCount(now[0]), pumps.size(),
            Integer.bitCount(now[1]), standing, state, text.length()};
        if (what >= 0 && what <= 8) {
            return counts[what];
        }
        return what >= 11 && what <= 17 ? refused[what - 10] : -9;
    }
}
