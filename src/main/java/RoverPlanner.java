/** A planner for a rover. ../shared/DOC.md says what each call promises. */
public final class RoverPlanner {
    private static final int SIDE = 24;
    private static final int PLACES = 576;
    private static final int HIGHEST = 99;
    private static final int ROUGHEST = 3;
    private static final int STEEPEST = 99;
    private static final int DIRECTIONS = 8;
    private static final int NONE = -1;

    private static final int DAY = 1440;
    private static final int LAST_TIME = 14400;
    private static final int CLEAREST = 100;
    private static final int LEAST_CLEARNESS = 20;
    private static final int DRIVE_COLD = -50;
    private static final int TOOL_COLD = -40;

    private static final int MOST_TARGETS = 12;
    private static final int MOST_PASSES = 6;
    private static final int MOST_ACTIVITIES = 40;
    private static final int MOST_MARKS = 8;
    /**
     * The greatest memory cannot hold more: sending takes the first piece of a priority until
     * nothing of it is left, so that of each of the 9 priorities at most one piece was sent in
     * part, and beside 9 such rests there is room for 124 images.
     */
    private static final int MOST_PIECES = 133;

    private static final int DRIVE = 0;
    private static final int IMAGE = 1;
    private static final int TOUCH = 2;
    private static final int SEND = 3;
    private static final int WAIT = 4;
    private static final int SLEEP = 5;
    private static final int HEAT = 6;
    private static final int CLEAN = 7;

    private static final int FINE = 0;
    private static final int NO_WAY = 1;
    private static final int BATTERY_EMPTY = 2;
    private static final int TOO_COLD = 3;
    private static final int NO_ROOM = 4;
    private static final int OUT_OF_REACH = 5;
    private static final int NO_PASS = 6;
    private static final int TIME_OVER = 7;

    private static final int IMAGE_SIZE = 40;
    private static final int IMAGE_REACH = 6;
    private static final int TOUCH_SIZE = 90;
    private static final int TOUCH_REACH = 1;
    private static final int NEED_TOUCH = 4;
    private static final int SAME_PLACE = 8;
    private static final int TOUCH_SIGN = 9;
    private static final int MADE_PRIORITY = 5;

    private static final int[] STEP_X = {1, 1, 0, -1, -1, -1, 0, 1};
    private static final int[] STEP_Y = {0, 1, 1, 1, 0, -1, -1, -1};

    private final Ground land;
    private final Ways ways;
    private final Targets aims;
    private final Passes passes;
    private final Doer doer;
    private final Maker maker;
    private final Rover now;
    private final Rover copy;
    private final Plan plan;
    private final Mark[] marks;
    private int markCount;

    public RoverPlanner() {
        land = new Ground();
        ways = new Ways(land);
        aims = new Targets();
        passes = new Passes();
        doer = new Doer(land, ways, aims, passes);
        maker = new Maker(land, ways, aims, doer);
        now = new Rover();
        copy = new Rover();
        plan = new Plan();
        marks = new Mark[MOST_MARKS];
    }

    // ---- ground

    public int raise(int x0, int x1, int y0, int y1, int by) throws IllegalArgumentException {
        if (!Ground.isRectangle(x0, x1, y0, y1) || !land.canLift(x0, x1, y0, y1, by)) {
            throw new IllegalArgumentException("no such rectangle, or a height beyond the limits");
        }
        return land.lift(x0, x1, y0, y1, by);
    }

    public int pave(int x0, int x1, int y0, int y1, int rough, boolean isHazard) throws IllegalArgumentException {
        if (!Ground.isRectangle(x0, x1, y0, y1) || rough < 0 || rough > ROUGHEST) {
            throw new IllegalArgumentException("no such rectangle or roughness");
        }
        land.cover(x0, x1, y0, y1, rough, isHazard);
        return (x1 - x0 + 1) * (y1 - y0 + 1);
    }

    public int ground(int x, int y, int what) throws IndexOutOfBoundsException {
        if (!Ground.isPlace(x, y) || what < 0 || what > 2) {
            throw new IndexOutOfBoundsException("no such place or number");
        }
        if (what == 0) {
            return land.heightAt(x, y);
        }
        if (what == 1) {
            return land.roughAt(x, y);
        }
        return land.isHazardAt(x, y) ? 1 : 0;
    }

    public int setSlope(int limit) throws IllegalArgumentException {
        if (limit < 0 || limit > STEEPEST) {
            throw new IllegalArgumentException("no such limit");
        }
        int before = land.slope;
        land.limitSlope(limit);
        return before;
    }

    public int way(int x0, int y0, int x1, int y1, int what) throws IndexOutOfBoundsException {
        if (!Ground.isPlace(x0, y0) || !Ground.isPlace(x1, y1) || what < 0 || what > 3) {
            throw new IndexOutOfBoundsException("no such place or number");
        }
        int start = Ground.placeOf(x0, y0);
        ways.measureTo(Ground.placeOf(x1, y1));
        if (what == 0) {
            return ways.costOf(start);
        }
        if (what == 3) {
            return ways.directionFrom(start);
        }
        return ways.sumFrom(start, what == 1);
    }

    public boolean sees(int x0, int y0, int x1, int y1) throws IndexOutOfBoundsException {
        if (!Ground.isPlace(x0, y0) || !Ground.isPlace(x1, y1)) {
            throw new IndexOutOfBoundsException("no such place");
        }
        return land.isSeen(x0, y0, x1, y1);
    }

    // ---- targets, passes and the rover

    public int addTarget(int x, int y, int value, int need) throws IndexOutOfBoundsException, IllegalArgumentException, IllegalStateException {
        if (!Ground.isPlace(x, y)) {
            throw new IndexOutOfBoundsException("no such place");
        }
        if (value < 1 || value > 100 || need < 1 || need > NEED_TOUCH) {
            throw new IllegalArgumentException("no such value or need");
        }
        if (aims.isFull()) {
            throw new IllegalStateException("there are 12 targets");
        }
        return aims.append(x, y, value, need);
    }

    public int target(int target, int what) throws IndexOutOfBoundsException {
        if (!aims.has(target) || what < 0 || what > 5) {
            throw new IndexOutOfBoundsException("no such target or number");
        }
        return aims.tell(target, what, now);
    }

    public int addPass(int from, int to, int rate) throws IllegalArgumentException, IllegalStateException {
        if (from < 0 || from >= DAY || to <= from || to > DAY || rate < 1 || rate > 20) {
            throw new IllegalArgumentException("no such pass");
        }
        if (passes.isFull()) {
            throw new IllegalStateException("there are 6 passes");
        }
        return passes.append(from, to, rate);
    }

    public int rate(int minute) throws IllegalArgumentException {
        if (minute < 0 || minute >= DAY) {
            throw new IllegalArgumentException("no such minute of the day");
        }
        return passes.rateAt(minute);
    }

    public int sky(int minute, boolean isOfAir) throws IllegalArgumentException {
        if (minute < 0 || minute >= DAY) {
            throw new IllegalArgumentException("no such minute of the day");
        }
        int light = Doer.lightAt(minute);
        return isOfAir ? Doer.airBy(light) : Doer.powerBy(light, now.clearness);
    }

    public int setRover(int capacity, int memory) throws IllegalArgumentException, IllegalStateException {
        if (capacity < 100 || capacity > 20000 || memory < 40 || memory > 5000) {
            throw new IllegalArgumentException("no such capacity or memory");
        }
        if (now.unitsKept() > memory) {
            throw new IllegalStateException("there are more data than memory");
        }
        int before = doer.capacity;
        doer.capacity = capacity;
        doer.memory = memory;
        now.limitBattery(capacity);
        return before;
    }

    public int rover(int what) throws IndexOutOfBoundsException {
        if (what < 0 || what > 9) {
            throw new IndexOutOfBoundsException("no such number");
        }
        return now.tell(what);
    }

    public int piece(int piece, int what) throws IndexOutOfBoundsException {
        if (!now.hasPiece(piece) || what < 0 || what > 3) {
            throw new IndexOutOfBoundsException("no such piece or number");
        }
        return now.tellPiece(piece, what);
    }

    public int score() {
        int sum = 0;
        for (int target = 0; target < aims.number; target++) {
            if (aims.isMet(target, now.signsSent(target))) {
                sum += aims.valueOf(target);
            }
        }
        return sum;
    }

    // ---- the plan

    public int put(int place, int kind, int a, int b) throws IndexOutOfBoundsException, IllegalArgumentException, IllegalStateException {
        if (place < 0 || place > plan.number) {
            throw new IndexOutOfBoundsException("no such place in the plan");
        }
        if (!canBe(kind, a, b)) {
            throw new IllegalArgumentException("no such activity");
        }
        if (!plan.hasRoom(1)) {
            throw new IllegalStateException("there are 40 activities");
        }
        plan.insert(place, kind, a, b);
        return plan.number;
    }

    public int remove(int place) throws IndexOutOfBoundsException {
        if (!plan.has(place)) {
            throw new IndexOutOfBoundsException("no such activity");
        }
        int kind = plan.tell(place, 0);
        plan.takeOut(place);
        return kind;
    }

    public int move(int place, int to) throws IndexOutOfBoundsException {
        if (!plan.has(place) || !plan.has(to)) {
            throw new IndexOutOfBoundsException("no such activity or place");
        }
        int kind = plan.tell(place, 0);
        int a = plan.tell(place, 1);
        int b = plan.tell(place, 2);
        plan.takeOut(place);
        plan.insert(to, kind, a, b);
        return kind;
    }

    public int activity(int place, int what) throws IndexOutOfBoundsException {
        if (!plan.has(place) || what < 0 || what > 2) {
            throw new IndexOutOfBoundsException("no such activity or number");
        }
        return plan.tell(place, what);
    }

    public int count(int what) throws IndexOutOfBoundsException {
        if (what < 0 || what > 3) {
            throw new IndexOutOfBoundsException("no such number");
        }
        return numberOf(what);
    }

    public int check() {
        int done = doOnCopy(plan.number);
        return done < plan.number ? done : -1;
    }

    public int reason() {
        doOnCopy(plan.number);
        return doer.lastReason;
    }

    public int foretell(int many, int what) throws IndexOutOfBoundsException, IllegalArgumentException, IllegalStateException {
        if (what < 0 || what > 9) {
            throw new IndexOutOfBoundsException("no such number");
        }
        if (many < 0 || many > plan.number) {
            throw new IllegalArgumentException("not so many activities");
        }
        if (doOnCopy(many) < many) {
            throw new IllegalStateException("one of them fails");
        }
        return copy.tell(what);
    }

    public int run(int most) throws IllegalArgumentException {
        if (most < 1 || most > MOST_ACTIVITIES) {
            throw new IllegalArgumentException("not so many activities");
        }
        int done = doer.performAll(now, plan, most);
        for (int i = 0; i < done; i++) {
            plan.takeOut(0);
        }
        return done;
    }

    public int make(int n) throws IllegalArgumentException {
        if (n < 1 || n > 2 * DAY) {
            throw new IllegalArgumentException("not so many minutes");
        }
        if (doOnCopy(plan.number) < plan.number) {
            return 0;
        }
        return maker.extend(plan, copy, n);
    }

    public int nearest(int target) throws IndexOutOfBoundsException {
        if (!aims.has(target)) {
            throw new IndexOutOfBoundsException("no such target");
        }
        ways.measureFrom(Ground.placeOf(now.x, now.y));
        int place = maker.nearestPlace(now, target);
        return place == NONE ? -1 : 100 * (place % SIDE) + place / SIDE;
    }

    // ---- marks

    public int mark() throws IllegalStateException {
        if (markCount < 0 || markCount >= MOST_MARKS) {
            throw new IllegalStateException("there are 8 marks");
        }
        Mark kept = marks[markCount];
        if (kept == null) {
            kept = new Mark();
            marks[markCount] = kept;
        }
        kept.rover.copyFrom(now);
        kept.plan.copyFrom(plan);
        markCount++;
        return markCount - 1;
    }

    public int back(int mark) throws IndexOutOfBoundsException {
        Mark kept = mark < 0 || mark >= markCount || mark >= MOST_MARKS ? null : marks[mark];
        if (kept == null) {
            throw new IndexOutOfBoundsException("no such mark");
        }
        now.copyFrom(kept.rover);
        now.limitBattery(doer.capacity);
        plan.copyFrom(kept.plan);
        markCount = mark + 1;
        return now.time;
    }

    public double sent() {
        return now.unitsTaken == 0 ? 1.0 : (double) now.unitsSent / (double) now.unitsTaken;
    }

    public long digest() {
        long sum = 337;
        for (int what = 0; what <= 9; what++) {
            sum = sum * 31 + now.tell(what);
        }
        for (int piece = 0; piece < now.pieceCount; piece++) {
            for (int what = 0; what <= 3; what++) {
                sum = sum * 31 + now.tellPiece(piece, what);
            }
        }
        for (int target = 0; target < aims.number; target++) {
            for (int what = 0; what <= 5; what++) {
                sum = sum * 31 + aims.tell(target, what, now);
            }
        }
        for (int place = 0; place < plan.number; place++) {
            for (int what = 0; what <= 2; what++) {
                sum = sum * 31 + plan.tell(place, what);
            }
        }
        for (int what = 0; what <= 3; what++) {
            sum = sum * 31 + numberOf(what);
        }
        return sum * 31 + score();
    }

    private int numberOf(int what) {
        switch (what) {
            case 0:
                return aims.number;
            case 1:
                return passes.number;
            case 2:
                return plan.number;
            default:
                return markCount;
        }
    }

    private boolean canBe(int kind, int a, int b) {
        switch (kind) {
            case DRIVE:
                return Ground.isPlace(a, b);
            case IMAGE:
            case TOUCH:
                return aims.has(a) && b >= 1 && b <= 9;
            case SEND:
                return a >= 1 && a <= 600 && b == 0;
            case WAIT:
            case SLEEP:
                return a >= 0 && a < DAY && b == 0;
            case HEAT:
                return (a == 0 || a == 1) && b == 0;
            case CLEAN:
                return a == 0 && b == 0;
            default:
                return false;
        }
    }

    /** How many of the first activities are done, on a new copy of the rover, until one fails. */
    private int doOnCopy(int many) {
        copy.copyFrom(now);
        return doer.performAll(copy, plan, many);
    }

    /** Heights, rough parts and hazards; steps, sight and directions upon them. */
    private static final class Ground {
        private final int[] heights = new int[PLACES];
        private final int[] roughs = new int[PLACES];
        private final boolean[] hazards = new boolean[PLACES];
        /** By place and direction; kept, as searches ask for it far more often than it changes. */
        private final int[] stepMinutes = new int[PLACES * DIRECTIONS];
        private int slope = 12;

        Ground() {
            measureSteps();
        }

        static boolean isPlace(int x, int y) {
            return x >= 0 && x < SIDE && y >= 0 && y < SIDE;
        }

        static boolean isRectangle(int x0, int x1, int y0, int y1) {
            return x0 >= 0 && x0 <= x1 && x1 < SIDE && y0 >= 0 && y0 <= y1 && y1 < SIDE;
        }

        static int placeOf(int x, int y) {
            return isPlace(x, y) ? y * SIDE + x : NONE;
        }

        static int neighbourOf(int place, int direction) {
            if (place < 0 || place >= PLACES || direction < 0 || direction >= DIRECTIONS) {
                return NONE;
            }
            int x = place % SIDE + STEP_X[direction];
            int y = place / SIDE + STEP_Y[direction];
            return isPlace(x, y) ? y * SIDE + x : NONE;
        }

        static int distance(int ax, int ay, int bx, int by) {
            return Math.max(Math.abs(bx - ax), Math.abs(by - ay));
        }

        /** The octant of a, as seen from b. */
        static int octantOf(int ax, int ay, int bx, int by) {
            int signX = Integer.compare(ax, bx);
            int signY = Integer.compare(ay, by);
            for (int direction = 0; direction < DIRECTIONS; direction++) {
                if (STEP_X[direction] == signX && STEP_Y[direction] == signY) {
                    return direction;
                }
            }
            return SAME_PLACE;
        }

        int heightAt(int x, int y) {
            return isPlace(x, y) ? heights[y * SIDE + x] : 0;
        }

        int roughAt(int x, int y) {
            return isPlace(x, y) ? roughs[y * SIDE + x] : 0;
        }

        boolean isHazardAt(int x, int y) {
            return isPlace(x, y) && hazards[y * SIDE + x];
        }

        boolean canLift(int x0, int x1, int y0, int y1, int by) {
            if (by < -2 * HIGHEST || by > 2 * HIGHEST) {
                return false;
            }
            for (int y = y0; y <= y1; y++) {
                for (int x = x0; x <= x1; x++) {
                    int height = heightAt(x, y) + by;
                    if (height < -HIGHEST || height > HIGHEST) {
                        return false;
                    }
                }
            }
            return true;
        }

        int lift(int x0, int x1, int y0, int y1, int by) {
            int greatest = -HIGHEST;
            for (int y = y0; y <= y1; y++) {
                for (int x = x0; x <= x1; x++) {
                    if (isPlace(x, y)) {
                        heights[y * SIDE + x] += by;
                        greatest = Math.max(greatest, heights[y * SIDE + x]);
                    }
                }
            }
            measureSteps();
            return greatest;
        }

        void cover(int x0, int x1, int y0, int y1, int rough, boolean isHazard) {
            for (int y = y0; y <= y1; y++) {
                for (int x = x0; x <= x1; x++) {
                    if (isPlace(x, y)) {
                        roughs[y * SIDE + x] = rough;
                        hazards[y * SIDE + x] = isHazard;
                    }
                }
            }
            measureSteps();
        }

        void limitSlope(int limit) {
            slope = limit;
            measureSteps();
        }

        private void measureSteps() {
            for (int place = 0; place < PLACES; place++) {
                for (int direction = 0; direction < DIRECTIONS; direction++) {
                    stepMinutes[place * DIRECTIONS + direction] = measureStep(place % SIDE, place / SIDE, direction);
                }
            }
        }

        private int measureStep(int x, int y, int direction) {
            int toX = x + STEP_X[direction];
            int toY = y + STEP_Y[direction];
            if (!isPlace(toX, toY) || isHazardAt(toX, toY)) {
                return NONE;
            }
            int rise = heightAt(toX, toY) - heightAt(x, y);
            if (Math.abs(rise) > slope) {
                return NONE;
            }
            boolean isDiagonal = toX != x && toY != y;
            if (isDiagonal && (isHazardAt(toX, y) || isHazardAt(x, toY))) {
                return NONE;
            }
            return (isDiagonal ? 3 : 2) * (2 + roughAt(toX, toY)) + Math.max(0, rise) / 3;
        }

        /** NONE where the step is not possible. */
        int minutesOf(int place, int direction) {
            if (place < 0 || place >= PLACES || direction < 0 || direction >= DIRECTIONS) {
                return NONE;
            }
            return stepMinutes[place * DIRECTIONS + direction];
        }

        /** Of a possible step. */
        int energyOf(int place, int direction) {
            int minutes = minutesOf(place, direction);
            if (minutes == NONE) {
                return 0;
            }
            int to = place + STEP_Y[direction] * SIDE + STEP_X[direction];
            int rise = to < 0 || to >= PLACES ? 0 : heights[to] - heights[place];
            return 4 * minutes + 2 * Math.max(0, rise);
        }

        /** Whether b is seen from a. */
        boolean isSeen(int ax, int ay, int bx, int by) {
            int n = distance(ax, ay, bx, by);
            int eye = heightAt(ax, ay) + 3;
            int rise = heightAt(bx, by) - eye;
            for (int k = 1; k < n; k++) {
                int x = ax + Math.floorDiv(2 * k * (bx - ax) + n, 2 * n);
                int y = ay + Math.floorDiv(2 * k * (by - ay) + n, 2 * n);
                if (heightAt(x, y) > eye + rise * k / n) {
                    return false;
                }
            }
            return true;
        }
    }

    /** The least minutes between one place and all others, and the way that follows them. */
    private static final class Ways {
        private final Ground ground;
        private final int[] costs = new int[PLACES];
        private final int[] open = new int[PLACES];
        private int openCount;

        Ways(Ground ground) {
            this.ground = ground;
        }

        void measureTo(int goal) {
            begin(goal);
            for (int settled = 0; settled < PLACES && openCount > 0; settled++) {
                int place = takeCheapest();
                for (int direction = 0; direction < DIRECTIONS; direction++) {
                    int from = Ground.neighbourOf(place, (direction + 4) % DIRECTIONS);
                    reach(from, place, ground.minutesOf(from, direction));
                }
            }
        }

        void measureFrom(int start) {
            begin(start);
            for (int settled = 0; settled < PLACES && openCount > 0; settled++) {
                int place = takeCheapest();
                for (int direction = 0; direction < DIRECTIONS; direction++) {
                    int to = Ground.neighbourOf(place, direction);
                    reach(to, place, ground.minutesOf(place, direction));
                }
            }
        }

        private void begin(int origin) {
            for (int place = 0; place < PLACES; place++) {
                costs[place] = NONE;
            }
            openCount = 0;
            if (origin >= 0 && origin < PLACES) {
                costs[origin] = 0;
                open[0] = origin;
                openCount = 1;
            }
        }

        private int takeCheapest() {
            int best = 0;
            int least = costOf(open[0]);
            for (int i = 1; i < openCount && i < PLACES; i++) {
                int cost = costOf(open[i]);
                if (cost < least) {
                    best = i;
                    least = cost;
                }
            }
            int place = open[best];
            if (openCount > 0 && openCount <= PLACES) {
                openCount--;
                open[best] = open[openCount];
            }
            return place;
        }

        private void reach(int place, int by, int minutes) {
            if (minutes == NONE || place < 0 || place >= PLACES) {
                return;
            }
            int cost = costOf(by) + minutes;
            if (costs[place] == NONE && openCount >= 0 && openCount < PLACES) {
                costs[place] = cost;
                open[openCount] = place;
                openCount++;
            } else if (cost < costs[place]) {
                costs[place] = cost;
            }
        }

        /** NONE where no steps lead. */
        int costOf(int place) {
            return place < 0 || place >= PLACES ? NONE : costs[place];
        }

        /** Where the way goes on, towards the goal that was measured; NONE at the goal or without a way. */
        int directionFrom(int place) {
            if (costOf(place) <= 0) {
                return NONE;
            }
            for (int direction = 0; direction < DIRECTIONS; direction++) {
                int minutes = ground.minutesOf(place, direction);
                int rest = costOf(Ground.neighbourOf(place, direction));
                if (minutes != NONE && rest != NONE && minutes + rest == costs[place]) {
                    return direction;
                }
            }
            return NONE;
        }

        /** The energy of the way to the goal, or its steps; NONE without a way. */
        int sumFrom(int start, boolean isOfEnergy) {
            if (costOf(start) == NONE) {
                return NONE;
            }
            int sum = 0;
            int place = start;
            int direction = directionFrom(place);
            for (int steps = 0; steps < PLACES && direction != NONE; steps++) {
                sum += isOfEnergy ? ground.energyOf(place, direction) : 1;
                place = Ground.neighbourOf(place, direction);
                direction = directionFrom(place);
            }
            return sum;
        }
    }

    private static final class Targets {
        private final int[] xs = new int[MOST_TARGETS];
        private final int[] ys = new int[MOST_TARGETS];
        private final int[] values = new int[MOST_TARGETS];
        private final int[] needs = new int[MOST_TARGETS];
        private int number;

        boolean isFull() {
            return number >= MOST_TARGETS;
        }

        boolean has(int target) {
            return target >= 0 && target < number && target < MOST_TARGETS;
        }

        int append(int x, int y, int value, int need) {
            if (isFull() || number < 0) {
                return NONE;
            }
            xs[number] = x;
            ys[number] = y;
            values[number] = value;
            needs[number] = need;
            number++;
            return number - 1;
        }

        int xOf(int target) {
            return has(target) ? xs[target] : NONE;
        }

        int yOf(int target) {
            return has(target) ? ys[target] : NONE;
        }

        int valueOf(int target) {
            return has(target) ? values[target] : 0;
        }

        int needOf(int target) {
            return has(target) ? needs[target] : 0;
        }

        boolean isMet(int target, int signs) {
            int need = needOf(target);
            return need == NEED_TOUCH ? hasTouch(signs) : octantsOf(signs) >= need;
        }

        int tell(int target, int what, Rover rover) {
            int sent = rover.signsSent(target);
            switch (what) {
                case 0:
                    return valueOf(target);
                case 1:
                    return needOf(target);
                case 2:
                    return octantsOf(sent);
                case 3:
                    return octantsOf(rover.signsOfAll(target));
                case 4:
                    return hasTouch(sent) ? 1 : 0;
                default:
                    return isMet(target, sent) ? 1 : 0;
            }
        }

        private static int octantsOf(int signs) {
            return Integer.bitCount(signs & ~(1 << TOUCH_SIGN));
        }

        private static boolean hasTouch(int signs) {
            return (signs & 1 << TOUCH_SIGN) != 0;
        }
    }

    private static final class Passes {
        private final int[] froms = new int[MOST_PASSES];
        private final int[] tos = new int[MOST_PASSES];
        private final int[] rates = new int[MOST_PASSES];
        private int number;

        boolean isFull() {
            return number >= MOST_PASSES;
        }

        int append(int from, int to, int rate) {
            if (!isFull() && number >= 0) {
                froms[number] = from;
                tos[number] = to;
                rates[number] = rate;
                number++;
            }
            return number;
        }

        int rateAt(int minute) {
            int greatest = 0;
            for (int i = 0; i < number && i < MOST_PASSES; i++) {
                if (froms[i] <= minute && minute < tos[i]) {
                    greatest = Math.max(greatest, rates[i]);
                }
            }
            return greatest;
        }
    }

    /** The rover and its data, which a copy can take over as a whole. */
    private static final class Rover {
        private int time;
        private int x;
        private int y;
        private int battery = 3000;
        private int temperature = -20;
        private int clearness = CLEAREST;
        private boolean isHeating;
        private int unitsSent;
        private int unitsTaken;
        private int pieceCount;
        private final int[] pieceTargets = new int[MOST_PIECES];
        private final int[] pieceLefts = new int[MOST_PIECES];
        private final int[] piecePriorities = new int[MOST_PIECES];
        /** The octant of an image, or TOUCH_SIGN. */
        private final int[] pieceSigns = new int[MOST_PIECES];
        /** By target: a bit for each octant of an image that was sent, and one for a touch. */
        private final int[] sentSigns = new int[MOST_TARGETS];

        void copyFrom(Rover other) {
            if (other == null) {
                return;
            }
            time = other.time;
            x = other.x;
            y = other.y;
            battery = other.battery;
            temperature = other.temperature;
            clearness = other.clearness;
            isHeating = other.isHeating;
            unitsSent = other.unitsSent;
            unitsTaken = other.unitsTaken;
            pieceCount = other.pieceCount;
            for (int i = 0; i < pieceCount && i < MOST_PIECES; i++) {
                pieceTargets[i] = other.pieceTargets[i];
                pieceLefts[i] = other.pieceLefts[i];
                piecePriorities[i] = other.piecePriorities[i];
                pieceSigns[i] = other.pieceSigns[i];
            }
            for (int i = 0; i < MOST_TARGETS; i++) {
                sentSigns[i] = other.sentSigns[i];
            }
        }

        void limitBattery(int capacity) {
            battery = Math.min(battery, capacity);
        }

        boolean hasPiece(int piece) {
            return piece >= 0 && piece < pieceCount && piece < MOST_PIECES;
        }

        int unitsKept() {
            int units = 0;
            for (int i = 0; i < pieceCount && i < MOST_PIECES; i++) {
                units += pieceLefts[i];
            }
            return units;
        }

        int tell(int what) {
            switch (what) {
                case 0:
                    return time;
                case 1:
                    return x;
                case 2:
                    return y;
                case 3:
                    return battery;
                case 4:
                    return temperature;
                case 5:
                    return isHeating ? 1 : 0;
                case 6:
                    return clearness;
                case 7:
                    return unitsKept();
                case 8:
                    return pieceCount;
                default:
                    return unitsSent;
            }
        }

        int tellPiece(int piece, int what) {
            if (!hasPiece(piece)) {
                return NONE;
            }
            switch (what) {
                case 0:
                    return pieceTargets[piece];
                case 1:
                    return pieceLefts[piece];
                case 2:
                    return piecePriorities[piece];
                default:
                    return pieceSigns[piece];
            }
        }

        int signsSent(int target) {
            return target < 0 || target >= MOST_TARGETS ? 0 : sentSigns[target];
        }

        /** Of the pieces that there are, kept or sent. */
        int signsOfAll(int target) {
            int signs = signsSent(target);
            for (int i = 0; i < pieceCount && i < MOST_PIECES; i++) {
                if (pieceTargets[i] == target) {
                    signs |= 1 << pieceSigns[i];
                }
            }
            return signs;
        }

        boolean isFull() {
            return pieceCount < 0 || pieceCount >= MOST_PIECES;
        }

        void keep(int target, int size, int priority, int sign) {
            if (isFull()) {
                return;
            }
            pieceTargets[pieceCount] = target;
            pieceLefts[pieceCount] = size;
            piecePriorities[pieceCount] = priority;
            pieceSigns[pieceCount] = sign;
            pieceCount++;
            unitsTaken += size;
        }

        void sendUnits(int rate) {
            int rest = rate;
            for (int n = 0; n < MOST_PIECES && rest > 0 && hasPiece(0); n++) {
                int first = mostUrgent();
                int part = Math.min(rest, pieceLefts[first]);
                rest -= part;
                unitsSent += part;
                pieceLefts[first] -= part;
                if (pieceLefts[first] == 0) {
                    finishPiece(first);
                }
            }
        }

        private int mostUrgent() {
            int best = 0;
            for (int i = 1; i < pieceCount && i < MOST_PIECES; i++) {
                if (piecePriorities[i] > piecePriorities[best]) {
                    best = i;
                }
            }
            return best;
        }

        private void finishPiece(int piece) {
            if (!hasPiece(piece)) {
                return;
            }
            int target = pieceTargets[piece];
            if (target >= 0 && target < MOST_TARGETS) {
                sentSigns[target] |= 1 << pieceSigns[piece];
            }
            for (int i = piece; i + 1 < pieceCount && i + 1 < MOST_PIECES; i++) {
                pieceTargets[i] = pieceTargets[i + 1];
                pieceLefts[i] = pieceLefts[i + 1];
                piecePriorities[i] = piecePriorities[i + 1];
                pieceSigns[i] = pieceSigns[i + 1];
            }
            pieceCount--;
        }
    }

    private static final class Plan {
        private final int[] kinds = new int[MOST_ACTIVITIES];
        private final int[] as = new int[MOST_ACTIVITIES];
        private final int[] bs = new int[MOST_ACTIVITIES];
        private int number;

        boolean has(int place) {
            return place >= 0 && place < number && place < MOST_ACTIVITIES;
        }

        boolean hasRoom(int more) {
            return number + more <= MOST_ACTIVITIES;
        }

        void insert(int place, int kind, int a, int b) {
            if (place < 0 || place > number || !hasRoom(1)) {
                return;
            }
            for (int i = number; i > place; i--) {
                kinds[i] = kinds[i - 1];
                as[i] = as[i - 1];
                bs[i] = bs[i - 1];
            }
            kinds[place] = kind;
            as[place] = a;
            bs[place] = b;
            number++;
        }

        void takeOut(int place) {
            if (!has(place)) {
                return;
            }
            for (int i = place; i + 1 < number && i + 1 < MOST_ACTIVITIES; i++) {
                kinds[i] = kinds[i + 1];
                as[i] = as[i + 1];
                bs[i] = bs[i + 1];
            }
            number--;
        }

        int tell(int place, int what) {
            if (!has(place)) {
                return NONE;
            }
            switch (what) {
                case 0:
                    return kinds[place];
                case 1:
                    return as[place];
                default:
                    return bs[place];
            }
        }

        void copyFrom(Plan other) {
            if (other == null) {
                return;
            }
            number = other.number;
            for (int i = 0; i < number && i < MOST_ACTIVITIES; i++) {
                kinds[i] = other.kinds[i];
                as[i] = other.as[i];
                bs[i] = other.bs[i];
            }
        }
    }

    private static final class Mark {
        private final Rover rover = new Rover();
        private final Plan plan = new Plan();
    }

    /** Does activities, minute by minute; each call that does so answers FINE or a reason. */
    private static final class Doer {
        private final Ground ground;
        private final Ways ways;
        private final Targets targets;
        private final Passes passes;
        private final Rover undo = new Rover();
        private int capacity = 4000;
        private int memory = 800;
        private int lastReason = FINE;

        Doer(Ground ground, Ways ways, Targets targets, Passes passes) {
            this.ground = ground;
            this.ways = ways;
            this.targets = targets;
            this.passes = passes;
        }

        static int lightAt(int minute) {
            if (minute < 360 || minute >= 1080) {
                return 0;
            }
            return minute < 720 ? minute - 360 : 1080 - minute;
        }

        static int airBy(int light) {
            return -70 + light / 6;
        }

        static int powerBy(int light, int clearness) {
            return light * clearness / 3600;
        }

        /** How many of the first activities are done, until one fails; lastReason tells why. */
        int performAll(Rover rover, Plan plan, int most) {
            lastReason = FINE;
            for (int place = 0; place < most && plan.has(place); place++) {
                lastReason = perform(rover, plan.tell(place, 0), plan.tell(place, 1), plan.tell(place, 2));
                if (lastReason != FINE) {
                    return place;
                }
            }
            return Math.min(most, plan.number);
        }

        /** An activity that fails leaves the rover as it was. */
        int perform(Rover rover, int kind, int a, int b) {
            undo.copyFrom(rover);
            int reason = FINE;
            switch (kind) {
                case DRIVE:
                    reason = drive(rover, a, b);
                    break;
                case IMAGE:
                    reason = takeImage(rover, a, b);
                    break;
                case TOUCH:
                    reason = takeTouch(rover, a, b);
                    break;
                case SEND:
                    reason = transmit(rover, a);
                    break;
                case WAIT:
                    reason = rest(rover, a, true);
                    break;
                case SLEEP:
                    reason = rest(rover, a, false);
                    break;
                case HEAT:
                    rover.isHeating = a == 1;
                    break;
                default:
                    reason = clean(rover);
                    break;
            }
            if (reason != FINE) {
                rover.copyFrom(undo);
            }
            return reason;
        }

        private int passMinutes(Rover rover, int minutes, boolean isAwake, int use) {
            for (int i = 0; i < minutes; i++) {
                if (rover.time >= LAST_TIME) {
                    return TIME_OVER;
                }
                int light = lightAt(rover.time % DAY);
                int drain = (isAwake ? 2 : 1) + (rover.isHeating ? 3 : 0) + use;
                int battery = rover.battery + powerBy(light, rover.clearness) - drain;
                if (battery < 0) {
                    return BATTERY_EMPTY;
                }
                rover.battery = Math.min(battery, capacity);
                rover.temperature += (airBy(light) - rover.temperature) / 20 + (rover.isHeating ? 2 : 0) + (isAwake ? 1 : 0);
                rover.time++;
                if (rover.time % DAY == 0) {
                    rover.clearness = Math.max(LEAST_CLEARNESS, rover.clearness - 1);
                }
            }
            return FINE;
        }

        private int drive(Rover rover, int x, int y) {
            ways.measureTo(Ground.placeOf(x, y));
            for (int steps = 0; steps < PLACES && (rover.x != x || rover.y != y); steps++) {
                int direction = ways.directionFrom(Ground.placeOf(rover.x, rover.y));
                if (direction < 0 || direction >= DIRECTIONS) {
                    return NO_WAY;
                }
                int reason = step(rover, direction);
                if (reason != FINE) {
                    return reason;
                }
            }
            return FINE;
        }

        private int step(Rover rover, int direction) {
            if (rover.temperature < DRIVE_COLD) {
                return TOO_COLD;
            }
            int place = Ground.placeOf(rover.x, rover.y);
            int reason = passMinutes(rover, ground.minutesOf(place, direction) - 1, true, 0);
            if (reason == FINE) {
                reason = passMinutes(rover, 1, true, ground.energyOf(place, direction));
            }
            rover.x += STEP_X[direction];
            rover.y += STEP_Y[direction];
            return reason;
        }

        private int takeImage(Rover rover, int target, int priority) {
            int x = targets.xOf(target);
            int y = targets.yOf(target);
            if (Ground.distance(rover.x, rover.y, x, y) > IMAGE_REACH || !ground.isSeen(rover.x, rover.y, x, y)) {
                return OUT_OF_REACH;
            }
            int reason = useTool(rover, IMAGE_SIZE, 6, 3);
            if (reason == FINE) {
                rover.keep(target, IMAGE_SIZE, priority, Ground.octantOf(rover.x, rover.y, x, y));
            }
            return reason;
        }

        private int takeTouch(Rover rover, int target, int priority) {
            if (Ground.distance(rover.x, rover.y, targets.xOf(target), targets.yOf(target)) > TOUCH_REACH) {
                return OUT_OF_REACH;
            }
            int reason = useTool(rover, TOUCH_SIZE, 25, 5);
            if (reason == FINE) {
                rover.keep(target, TOUCH_SIZE, priority, TOUCH_SIGN);
            }
            return reason;
        }

        private int useTool(Rover rover, int size, int minutes, int use) {
            if (rover.temperature < TOOL_COLD) {
                return TOO_COLD;
            }
            if (rover.isFull() || rover.unitsKept() + size > memory) {
                return NO_ROOM;
            }
            return passMinutes(rover, minutes, true, use);
        }

        private int transmit(Rover rover, int minutes) {
            if (passes.rateAt(rover.time % DAY) == 0) {
                return NO_PASS;
            }
            for (int i = 0; i < minutes && rover.pieceCount > 0; i++) {
                rover.sendUnits(passes.rateAt(rover.time % DAY));
                int reason = passMinutes(rover, 1, true, 4);
                if (reason != FINE) {
                    return reason;
                }
            }
            return FINE;
        }

        private int rest(Rover rover, int until, boolean isAwake) {
            // at least one minute: to the same minute of the day it is a whole day
            int minutes = 1 + Math.floorMod(until - rover.time - 1, DAY);
            return passMinutes(rover, minutes, isAwake, 0);
        }

        private int clean(Rover rover) {
            int reason = passMinutes(rover, 15, true, 6);
            if (reason == FINE) {
                rover.clearness = Math.min(CLEAREST, rover.clearness + 10);
            }
            return reason;
        }
    }

    /** Finds nearest places for targets, and puts visits to them behind a plan. */
    private static final class Maker {
        private final Ground ground;
        private final Ways ways;
        private final Targets targets;
        private final Doer doer;
        private final Rover ahead = new Rover();

        Maker(Ground ground, Ways ways, Targets targets, Doer doer) {
            this.ground = ground;
            this.ways = ways;
            this.targets = targets;
            this.doer = doer;
        }

        /** How many activities were put behind the plan, when the copy stands behind the whole of it. */
        int extend(Plan plan, Rover copy, int minutes) {
            int before = plan.number;
            int end = copy.time + minutes;
            int leftAside = 0;
            // each turn puts two activities into the plan, or leaves a target aside
            for (int turn = 0; turn < MOST_ACTIVITIES + MOST_TARGETS && plan.hasRoom(2); turn++) {
                ways.measureFrom(Ground.placeOf(copy.x, copy.y));
                int target = choose(copy, leftAside);
                int place = nearestPlace(copy, target);
                if (place == NONE) {
                    break;
                }
                if (!visit(plan, copy, target, place, end)) {
                    leftAside |= 1 << target;
                }
            }
            return plan.number - before;
        }

        private int choose(Rover copy, int leftAside) {
            int best = NONE;
            int bestWorth = -1;
            for (int target = 0; target < targets.number; target++) {
                int place = (leftAside >> target & 1) == 1 ? NONE : nearestPlace(copy, target);
                if (place != NONE) {
                    int worth = 1000 * targets.valueOf(target) / (1 + Math.max(0, ways.costOf(place)));
                    if (worth > bestWorth) {
                        best = target;
                        bestWorth = worth;
                    }
                }
            }
            return best;
        }

        private boolean visit(Plan plan, Rover copy, int target, int place, int end) {
            int kind = targets.needOf(target) == NEED_TOUCH ? TOUCH : IMAGE;
            int x = place % SIDE;
            int y = place / SIDE;
            ahead.copyFrom(copy);
            if (doer.perform(copy, DRIVE, x, y) != FINE
                    || doer.perform(copy, kind, target, MADE_PRIORITY) != FINE
                    || copy.time > end) {
                copy.copyFrom(ahead);
                return false;
            }
            plan.insert(plan.number, DRIVE, x, y);
            plan.insert(plan.number, kind, target, MADE_PRIORITY);
            return true;
        }

        /** From where the ways were measured; NONE if the target needs nothing more, or has no such place. */
        int nearestPlace(Rover rover, int target) {
            int signs = rover.signsOfAll(target);
            if (!targets.has(target) || targets.isMet(target, signs)) {
                return NONE;
            }
            int reach = targets.needOf(target) == NEED_TOUCH ? TOUCH_REACH : IMAGE_REACH;
            int targetX = targets.xOf(target);
            int targetY = targets.yOf(target);
            int best = NONE;
            for (int y = targetY - reach; y <= targetY + reach; y++) {
                for (int x = targetX - reach; x <= targetX + reach; x++) {
                    int place = Ground.placeOf(x, y);
                    if (isNearer(place, best) && serves(x, y, target, signs)) {
                        best = place;
                    }
                }
            }
            return best;
        }

        private boolean isNearer(int place, int best) {
            int cost = ways.costOf(place);
            return cost != NONE && (best == NONE || cost < ways.costOf(best));
        }

        private boolean serves(int x, int y, int target, int signs) {
            if (targets.needOf(target) == NEED_TOUCH) {
                return true;
            }
            int targetX = targets.xOf(target);
            int targetY = targets.yOf(target);
            int octant = Ground.octantOf(x, y, targetX, targetY);
            return (signs >> octant & 1) == 0 && ground.isSeen(x, y, targetX, targetY);
        }
    }
}
