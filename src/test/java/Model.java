import java.util.ArrayList;
import java.util.Arrays;
import java.util.List;
import java.util.TreeSet;

/** The document told once more, in the most roundabout way: what RoverPlanner is compared with. */
final class Model {
    static final int[][] DIRECTIONS = {{1, 0}, {1, 1}, {0, 1}, {-1, 1}, {-1, 0}, {-1, -1}, {0, -1}, {1, -1}};

    record Target(int x, int y, int value, int need) { }

    record Pass(int from, int to, int rate) { }

    record Activity(int kind, int a, int b) { }

    record Piece(int target, int left, int priority, int octant) { }

    /** An activity that fails. */
    static final class Fails extends Exception {
        private static final long serialVersionUID = 1;
        final int reason;

        Fails(int reason) {
            this.reason = reason;
        }
    }

    static final class State {
        int time, x, y, battery = 3000, temperature = -20, clearness = 100;
        boolean heater;
        long unitsSent, unitsEver;
        List<Piece> kept = new ArrayList<>();
        List<Piece> gone = new ArrayList<>();

        State twin() {
            State t = new State();
            t.time = time;
            t.x = x;
            t.y = y;
            t.battery = battery;
            t.temperature = temperature;
            t.clearness = clearness;
            t.heater = heater;
            t.unitsSent = unitsSent;
            t.unitsEver = unitsEver;
            t.kept = new ArrayList<>(kept);
            t.gone = new ArrayList<>(gone);
            return t;
        }

        int units() {
            return kept.stream().mapToInt(Piece::left).sum();
        }
    }

    record Kept(State state, List<Activity> plan) { }

    final int[][] height = new int[24][24];
    final int[][] rough = new int[24][24];
    final boolean[][] hazard = new boolean[24][24];
    int slope = 12;
    int capacity = 4000;
    int memory = 800;
    final List<Target> targets = new ArrayList<>();
    final List<Pass> passes = new ArrayList<>();
    State now = new State();
    List<Activity> plan = new ArrayList<>();
    final List<Kept> marks = new ArrayList<>();

    static boolean there(int x, int y) {
        return 0 <= x && x <= 23 && 0 <= y && y <= 23;
    }

    static void range(boolean fine) {
        if (!fine) {
            throw new IndexOutOfBoundsException();
        }
    }

    static void argument(boolean fine) {
        if (!fine) {
            throw new IllegalArgumentException();
        }
    }

    static void state(boolean fine) {
        if (!fine) {
            throw new IllegalStateException();
        }
    }

    // ---- ground

    int raise(int x0, int x1, int y0, int y1, int by) {
        argument(!(x0 < 0 || x0 > x1 || x1 > 23 || y0 < 0 || y0 > y1 || y1 > 23));
        int greatest = Integer.MIN_VALUE;
        for (int x = x0; x <= x1; x++) {
            for (int y = y0; y <= y1; y++) {
                long h = (long) height[x][y] + by;
                argument(h >= -99 && h <= 99);
                greatest = Math.max(greatest, (int) h);
            }
        }
        for (int x = x0; x <= x1; x++) {
            for (int y = y0; y <= y1; y++) {
                height[x][y] += by;
            }
        }
        return greatest;
    }

    int pave(int x0, int x1, int y0, int y1, int roughness, boolean isHazard) {
        argument(!(x0 < 0 || x0 > x1 || x1 > 23 || y0 < 0 || y0 > y1 || y1 > 23));
        argument(roughness >= 0 && roughness <= 3);
        int n = 0;
        for (int x = x0; x <= x1; x++) {
            for (int y = y0; y <= y1; y++) {
                rough[x][y] = roughness;
                hazard[x][y] = isHazard;
                n++;
            }
        }
        return n;
    }

    int ground(int x, int y, int what) {
        range(there(x, y) && what >= 0 && what <= 2);
        return what == 0 ? height[x][y] : what == 1 ? rough[x][y] : hazard[x][y] ? 1 : 0;
    }

    int setSlope(int limit) {
        argument(limit >= 0 && limit <= 99);
        int was = slope;
        slope = limit;
        return was;
    }

    boolean possible(int x, int y, int d) {
        int tx = x + DIRECTIONS[d][0];
        int ty = y + DIRECTIONS[d][1];
        if (!there(tx, ty) || hazard[tx][ty]) {
            return false;
        }
        if (height[x][y] - height[tx][ty] > slope || height[tx][ty] - height[x][y] > slope) {
            return false;
        }
        return d % 2 == 0 || !hazard[tx][y] && !hazard[x][ty];
    }

    int climb(int x, int y, int d) {
        return Math.max(0, height[x + DIRECTIONS[d][0]][y + DIRECTIONS[d][1]] - height[x][y]);
    }

    int minutes(int x, int y, int d) {
        int r = rough[x + DIRECTIONS[d][0]][y + DIRECTIONS[d][1]];
        return (d % 2 == 0 ? 2 : 3) * (2 + r) + climb(x, y, d) / 3;
    }

    int energy(int x, int y, int d) {
        return 4 * minutes(x, y, d) + 2 * climb(x, y, d);
    }

    /** By sweeps over all places until nothing becomes less. */
    int[][] costsTo(int gx, int gy) {
        int[][] cost = new int[24][24];
        for (int[] row : cost) {
            Arrays.fill(row, 1_000_000);
        }
        cost[gx][gy] = 0;
        boolean changed = true;
        while (changed) {
            changed = false;
            for (int x = 0; x < 24; x++) {
                for (int y = 0; y < 24; y++) {
                    for (int d = 0; d < 8; d++) {
                        if (possible(x, y, d)) {
                            int c = minutes(x, y, d) + cost[x + DIRECTIONS[d][0]][y + DIRECTIONS[d][1]];
                            if (c < cost[x][y]) {
                                cost[x][y] = c;
                                changed = true;
                            }
                        }
                    }
                }
            }
        }
        return cost;
    }

    /** The least minutes from one place to all others: sweeps the other way round. */
    int[][] costsFrom(int sx, int sy) {
        int[][] cost = new int[24][24];
        for (int[] row : cost) {
            Arrays.fill(row, 1_000_000);
        }
        cost[sx][sy] = 0;
        boolean changed = true;
        while (changed) {
            changed = false;
            for (int x = 0; x < 24; x++) {
                for (int y = 0; y < 24; y++) {
                    for (int d = 0; cost[x][y] < 1_000_000 && d < 8; d++) {
                        if (possible(x, y, d)) {
                            int c = minutes(x, y, d) + cost[x][y];
                            int tx = x + DIRECTIONS[d][0];
                            int ty = y + DIRECTIONS[d][1];
                            if (c < cost[tx][ty]) {
                                cost[tx][ty] = c;
                                changed = true;
                            }
                        }
                    }
                }
            }
        }
        return cost;
    }

    /** The directions of the way; null if there is none. */
    List<Integer> wayOf(int x0, int y0, int x1, int y1) {
        int[][] cost = costsTo(x1, y1);
        if (cost[x0][y0] >= 1_000_000) {
            return null;
        }
        List<Integer> way = new ArrayList<>();
        int x = x0;
        int y = y0;
        while (x != x1 || y != y1) {
            int d = 0;
            while (!possible(x, y, d) || minutes(x, y, d) + cost[x + DIRECTIONS[d][0]][y + DIRECTIONS[d][1]] != cost[x][y]) {
                d++;
            }
            way.add(d);
            x += DIRECTIONS[d][0];
            y += DIRECTIONS[d][1];
        }
        return way;
    }

    int way(int x0, int y0, int x1, int y1, int what) {
        range(there(x0, y0) && there(x1, y1) && what >= 0 && what <= 3);
        List<Integer> way = wayOf(x0, y0, x1, y1);
        if (way == null) {
            return -1;
        }
        if (what == 3) {
            return way.isEmpty() ? -1 : way.get(0);
        }
        int[] sums = new int[3];
        int x = x0;
        int y = y0;
        for (int d : way) {
            sums[0] += minutes(x, y, d);
            sums[1] += energy(x, y, d);
            sums[2]++;
            x += DIRECTIONS[d][0];
            y += DIRECTIONS[d][1];
        }
        return sums[what];
    }

    boolean sees(int ax, int ay, int bx, int by) {
        range(there(ax, ay) && there(bx, by));
        int dx = bx - ax;
        int dy = by - ay;
        int n = distance(ax, ay, bx, by);
        for (int k = 1; k <= n - 1; k++) {
            int px = ax + (int) Math.floor((2.0 * k * dx + n) / (2.0 * n));
            int py = ay + (int) Math.floor((2.0 * k * dy + n) / (2.0 * n));
            int most = height[ax][ay] + 3 + (height[bx][by] - height[ax][ay] - 3) * k / n;
            if (height[px][py] > most) {
                return false;
            }
        }
        return true;
    }

    static int distance(int ax, int ay, int bx, int by) {
        return Math.max(Math.abs(ax - bx), Math.abs(ay - by));
    }

    static int octant(int ax, int ay, int bx, int by) {
        int[] signs = {Integer.signum(ax - bx), Integer.signum(ay - by)};
        for (int d = 0; d < 8; d++) {
            if (Arrays.equals(DIRECTIONS[d], signs)) {
                return d;
            }
        }
        return 8;
    }

    // ---- targets, passes and the rover

    int addTarget(int x, int y, int value, int need) {
        range(there(x, y));
        argument(value >= 1 && value <= 100 && need >= 1 && need <= 4);
        state(targets.size() < 12);
        targets.add(new Target(x, y, value, need));
        return targets.size() - 1;
    }

    static int octants(List<Piece> pieces, int target) {
        TreeSet<Integer> found = new TreeSet<>();
        for (Piece p : pieces) {
            if (p.target() == target && p.octant() < 9) {
                found.add(p.octant());
            }
        }
        return found.size();
    }

    static boolean touched(List<Piece> pieces, int target) {
        return pieces.stream().anyMatch(p -> p.target() == target && p.octant() == 9);
    }

    static List<Piece> all(State s) {
        List<Piece> all = new ArrayList<>(s.kept);
        all.addAll(s.gone);
        return all;
    }

    boolean met(List<Piece> pieces, int target) {
        int need = targets.get(target).need();
        return need == 4 ? touched(pieces, target) : octants(pieces, target) >= need;
    }

    int target(int target, int what) {
        range(target >= 0 && target < targets.size() && what >= 0 && what <= 5);
        switch (what) {
            case 0: return targets.get(target).value();
            case 1: return targets.get(target).need();
            case 2: return octants(now.gone, target);
            case 3: return octants(all(now), target);
            case 4: return touched(now.gone, target) ? 1 : 0;
            default: return met(now.gone, target) ? 1 : 0;
        }
    }

    int addPass(int from, int to, int rate) {
        argument(from >= 0 && from <= 1439 && to > from && to <= 1440 && rate >= 1 && rate <= 20);
        state(passes.size() < 6);
        passes.add(new Pass(from, to, rate));
        return passes.size();
    }

    int rate(int minute) {
        argument(minute >= 0 && minute <= 1439);
        return passes.stream().filter(p -> p.from() <= minute && minute < p.to()).mapToInt(Pass::rate).max().orElse(0);
    }

    static int light(int m) {
        return m >= 360 && m <= 1079 ? 360 - Math.abs(m - 720) : 0;
    }

    int sky(int minute, boolean isOfAir) {
        argument(minute >= 0 && minute <= 1439);
        return isOfAir ? -70 + light(minute) / 6 : light(minute) * now.clearness / 3600;
    }

    int setRover(int newCapacity, int newMemory) {
        argument(newCapacity >= 100 && newCapacity <= 20000 && newMemory >= 40 && newMemory <= 5000);
        state(now.units() <= newMemory);
        int was = capacity;
        capacity = newCapacity;
        memory = newMemory;
        now.battery = Math.min(now.battery, capacity);
        return was;
    }

    static int told(State s, int what) {
        int[] all = {s.time, s.x, s.y, s.battery, s.temperature, s.heater ? 1 : 0, s.clearness, s.units(), s.kept.size(), (int) s.unitsSent};
        return all[what];
    }

    int rover(int what) {
        range(what >= 0 && what <= 9);
        return told(now, what);
    }

    int piece(int piece, int what) {
        range(piece >= 0 && piece < now.kept.size() && what >= 0 && what <= 3);
        Piece p = now.kept.get(piece);
        return what == 0 ? p.target() : what == 1 ? p.left() : what == 2 ? p.priority() : p.octant();
    }

    int score() {
        int sum = 0;
        for (int t = 0; t < targets.size(); t++) {
            sum += met(now.gone, t) ? targets.get(t).value() : 0;
        }
        return sum;
    }

    // ---- activities

    void minute(State s, boolean awake, int use) throws Fails {
        if (s.time + 1 > 14400) {
            throw new Fails(7);
        }
        int m = s.time % 1440;
        int battery = s.battery + light(m) * s.clearness / 3600;
        battery -= awake ? 2 : 1;
        battery -= s.heater ? 3 : 0;
        battery -= use;
        if (battery < 0) {
            throw new Fails(2);
        }
        s.battery = battery > capacity ? capacity : battery;
        int air = -70 + light(m) / 6;
        s.temperature = s.temperature + (air - s.temperature) / 20 + (s.heater ? 2 : 0) + (awake ? 1 : 0);
        s.time = s.time + 1;
        if (s.time % 1440 == 0 && s.clearness > 20) {
            s.clearness--;
        }
    }

    State after(State before, Activity act) throws Fails {
        State s = before.twin();
        switch (act.kind()) {
            case 0: drive(s, act.a(), act.b()); break;
            case 1: image(s, act.a(), act.b()); break;
            case 2: touch(s, act.a(), act.b()); break;
            case 3: send(s, act.a()); break;
            case 4: until(s, act.a(), true); break;
            case 5: until(s, act.a(), false); break;
            case 6: s.heater = act.a() == 1; break;
            default:
                for (int i = 0; i < 15; i++) {
                    minute(s, true, 6);
                }
                s.clearness = Math.min(100, s.clearness + 10);
        }
        return s;
    }

    void drive(State s, int x, int y) throws Fails {
        List<Integer> way = wayOf(s.x, s.y, x, y);
        if (way == null) {
            throw new Fails(1);
        }
        for (int d : way) {
            if (s.temperature < -50) {
                throw new Fails(3);
            }
            int n = minutes(s.x, s.y, d);
            for (int i = 1; i <= n; i++) {
                minute(s, true, i == n ? energy(s.x, s.y, d) : 0);
            }
            s.x += DIRECTIONS[d][0];
            s.y += DIRECTIONS[d][1];
        }
    }

    void image(State s, int target, int priority) throws Fails {
        Target t = targets.get(target);
        if (!sees(s.x, s.y, t.x(), t.y()) || distance(s.x, s.y, t.x(), t.y()) > 6) {
            throw new Fails(5);
        }
        tool(s, 40, 6, 3);
        s.kept.add(new Piece(target, 40, priority, octant(s.x, s.y, t.x(), t.y())));
        s.unitsEver += 40;
    }

    void touch(State s, int target, int priority) throws Fails {
        Target t = targets.get(target);
        if (distance(s.x, s.y, t.x(), t.y()) > 1) {
            throw new Fails(5);
        }
        tool(s, 90, 25, 5);
        s.kept.add(new Piece(target, 90, priority, 9));
        s.unitsEver += 90;
    }

    void tool(State s, int size, int minutes, int use) throws Fails {
        if (s.temperature < -40) {
            throw new Fails(3);
        }
        if (s.units() + size > memory) {
            throw new Fails(4);
        }
        for (int i = 0; i < minutes; i++) {
            minute(s, true, use);
        }
    }

    void send(State s, int n) throws Fails {
        if (rate(s.time % 1440) == 0) {
            throw new Fails(6);
        }
        for (int i = 0; i < n && !s.kept.isEmpty(); i++) {
            int rate = rate(s.time % 1440);
            minute(s, true, 4);
            // unit by unit
            for (int u = 0; u < rate && !s.kept.isEmpty(); u++) {
                int greatest = s.kept.stream().mapToInt(Piece::priority).max().orElse(0);
                int at = 0;
                while (s.kept.get(at).priority() != greatest) {
                    at++;
                }
                Piece p = s.kept.get(at);
                s.unitsSent++;
                if (p.left() == 1) {
                    s.gone.add(p);
                    s.kept.remove(at);
                } else {
                    s.kept.set(at, new Piece(p.target(), p.left() - 1, p.priority(), p.octant()));
                }
            }
        }
    }

    void until(State s, int m, boolean awake) throws Fails {
        do {
            minute(s, awake, 0);
        } while (s.time % 1440 != m);
    }

    // ---- the plan

    int put(int place, int kind, int a, int b) {
        range(place >= 0 && place <= plan.size());
        argument(kind >= 0 && kind <= 7);
        if (kind == 0) {
            argument(there(a, b));
        } else if (kind <= 2) {
            argument(a >= 0 && a < targets.size() && b >= 1 && b <= 9);
        } else {
            argument(b == 0);
            int least = kind == 3 ? 1 : 0;
            int most = kind == 3 ? 600 : kind <= 5 ? 1439 : kind == 6 ? 1 : 0;
            argument(a >= least && a <= most);
        }
        state(plan.size() < 40);
        plan.add(place, new Activity(kind, a, b));
        return plan.size();
    }

    int remove(int place) {
        range(place >= 0 && place < plan.size());
        return plan.remove(place).kind();
    }

    int move(int place, int to) {
        range(place >= 0 && place < plan.size() && to >= 0 && to < plan.size());
        Activity act = plan.remove(place);
        plan.add(to, act);
        return act.kind();
    }

    int activity(int place, int what) {
        range(place >= 0 && place < plan.size() && what >= 0 && what <= 2);
        Activity act = plan.get(place);
        return what == 0 ? act.kind() : what == 1 ? act.a() : act.b();
    }

    int count(int what) {
        range(what >= 0 && what <= 3);
        return new int[] {targets.size(), passes.size(), plan.size(), marks.size()}[what];
    }

    int check() {
        State s = now;
        for (int i = 0; i < plan.size(); i++) {
            try {
                s = after(s, plan.get(i));
            } catch (Fails f) {
                return i;
            }
        }
        return -1;
    }

    int reason() {
        State s = now;
        for (Activity act : plan) {
            try {
                s = after(s, act);
            } catch (Fails f) {
                return f.reason;
            }
        }
        return 0;
    }

    State foretold(int many) {
        State s = now;
        for (int i = 0; i < many; i++) {
            try {
                s = after(s, plan.get(i));
            } catch (Fails f) {
                return null;
            }
        }
        return s;
    }

    int foretell(int many, int what) {
        range(what >= 0 && what <= 9);
        argument(many >= 0 && many <= plan.size());
        State s = foretold(many);
        state(s != null);
        return told(s, what);
    }

    int run(int most) {
        argument(most >= 1 && most <= 40);
        int done = 0;
        try {
            while (done < most && !plan.isEmpty()) {
                now = after(now, plan.get(0));
                plan.remove(0);
                done++;
            }
        } catch (Fails f) {
            return done;
        }
        return done;
    }

    /** {minutes, x, y}; null if there is none. */
    int[] nearestOf(State s, int target, int[][] cost) {
        if (met(all(s), target)) {
            return null;
        }
        Target t = targets.get(target);
        int[] best = null;
        for (int y = 0; y < 24; y++) {
            for (int x = 0; x < 24; x++) {
                int d = distance(x, y, t.x(), t.y());
                if (cost[x][y] >= 1_000_000 || d > (t.need() == 4 ? 1 : 6)) {
                    continue;
                }
                if (t.need() < 4) {
                    int octant = octant(x, y, t.x(), t.y());
                    boolean old = all(s).stream().anyMatch(p -> p.target() == target && p.octant() == octant);
                    if (old || !sees(x, y, t.x(), t.y())) {
                        continue;
                    }
                }
                if (best == null || cost[x][y] < best[0]) {
                    best = new int[] {cost[x][y], x, y};
                }
            }
        }
        return best;
    }

    int make(int n) {
        argument(n >= 1 && n <= 2880);
        State s = foretold(plan.size());
        if (s == null) {
            return 0;
        }
        int start = s.time;
        int put = 0;
        boolean[] off = new boolean[12];
        while (plan.size() + 2 <= 40) {
            int[][] cost = costsFrom(s.x, s.y);
            int chosen = -1;
            int most = -1;
            int[] place = null;
            for (int t = 0; t < targets.size(); t++) {
                int[] p = off[t] ? null : nearestOf(s, t, cost);
                if (p != null && 1000 * targets.get(t).value() / (1 + p[0]) > most) {
                    most = 1000 * targets.get(t).value() / (1 + p[0]);
                    chosen = t;
                    place = p;
                }
            }
            if (chosen < 0) {
                return put;
            }
            Activity drive = new Activity(0, place[1], place[2]);
            Activity tool = new Activity(targets.get(chosen).need() == 4 ? 2 : 1, chosen, 5);
            try {
                State later = after(after(s, drive), tool);
                if (later.time - start > n) {
                    off[chosen] = true;
                } else {
                    s = later;
                    plan.add(drive);
                    plan.add(tool);
                    put += 2;
                }
            } catch (Fails f) {
                off[chosen] = true;
            }
        }
        return put;
    }

    int nearest(int target) {
        range(target >= 0 && target < targets.size());
        int[] p = nearestOf(now, target, costsFrom(now.x, now.y));
        return p == null ? -1 : 100 * p[1] + p[2];
    }

    // ---- marks

    int mark() {
        state(marks.size() < 8);
        marks.add(new Kept(now.twin(), new ArrayList<>(plan)));
        return marks.size() - 1;
    }

    int back(int mark) {
        range(mark >= 0 && mark < marks.size());
        while (marks.size() > mark + 1) {
            marks.remove(marks.size() - 1);
        }
        now = marks.get(mark).state().twin();
        plan = new ArrayList<>(marks.get(mark).plan());
        now.battery = Math.min(now.battery, capacity);
        return now.time;
    }

    double sent() {
        return now.unitsEver == 0 ? 1 : (double) now.unitsSent / now.unitsEver;
    }

    long digest() {
        List<Integer> numbers = new ArrayList<>();
        for (int i = 0; i < 10; i++) {
            numbers.add(rover(i));
        }
        for (int p = 0; p < now.kept.size(); p++) {
            for (int i = 0; i < 4; i++) {
                numbers.add(piece(p, i));
            }
        }
        for (int t = 0; t < targets.size(); t++) {
            for (int i = 0; i < 6; i++) {
                numbers.add(target(t, i));
            }
        }
        for (int p = 0; p < plan.size(); p++) {
            for (int i = 0; i < 3; i++) {
                numbers.add(activity(p, i));
            }
        }
        for (int i = 0; i < 4; i++) {
            numbers.add(count(i));
        }
        numbers.add(score());
        long d = 337;
        for (int x : numbers) {
            d = d * 31 + x;
        }
        return d;
    }
}
