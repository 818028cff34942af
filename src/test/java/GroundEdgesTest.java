/** The boundary cases of promises 1 to 7, sentence by sentence. */
public final class GroundEdgesTest {
    private static final int[] STEP_X = {1, 1, 0, -1, -1, -1, 0, 1};
    private static final int[] STEP_Y = {0, 1, 1, 1, 0, -1, -1, -1};

    public static void main(String[] args) {
        newGround();
        newRover();
        newIsEmpty();
        lastCall();
        raiseRectangles();
        raiseHeights();
        paveRectangles();
        paveRoughness();
        paveHazards();
        groundPlaces();
        slopeLimits();
        slopeUsed();
        wayPlaces();
        stepsLeadToPlaces();
        stepsPastHazards();
        stepsUpAndDown();
        stepsCost();
        waysWithoutSteps();
        waysOfEqualMinutes();
        longestWay();
        seesPlaces();
        seesNear();
        seesHeights();
        seesPlacesBetween();
        Edge.end("GroundEdgesTest", 1, 7);
    }

    // ---- promise 1

    private static void newGround() {
        Edge.of(1, "at first all are 0, and none is a hazard");
        for (int x = 0; x < 24; x++) {
            RoverPlanner p = new RoverPlanner();
            for (int y = 0; y < 24; y++) {
                Due.is("height of " + x + " " + y, 0, p.ground(x, y, 0));
                Due.is("roughness of " + x + " " + y, 0, p.ground(x, y, 1));
                Due.is("hazard of " + x + " " + y, 0, p.ground(x, y, 2));
            }
        }
        Edge.of(1, "the limit of slopes (12, at first)");
        Due.is("limit", 12, new RoverPlanner().setSlope(0));
    }

    private static void newRover() {
        Edge.of(1, "The rover is at a place ((0, 0), at first), has energy in its battery (3000 at first");
        Due.is("rover", "0 0 0 3000 -20 0 100 0 0 0", Edge.rover(new RoverPlanner()));
        Edge.of(1, "a temperature (-20, at first), a heater (off, at first), and data");
        Due.is("temperature", -20, new RoverPlanner().rover(4));
        Due.is("heater", 0, new RoverPlanner().rover(5));
        Edge.of(1, "at most the capacity, 4000 at first");
        Due.is("capacity", 4000, new RoverPlanner().setRover(100, 40));
        RoverPlanner p = new RoverPlanner();
        for (int day = 0; day < 3; day++) {
            Edge.act(p, 5, 720, 0);
        }
        Due.is("a full battery", 4000, p.rover(3));
        Edge.of(1, "their sizes are together at most the memory (800, at first)");
        RoverPlanner q = new RoverPlanner();
        q.addTarget(0, 0, 1, 1);
        Edge.act(q, 6, 1, 0);
        for (int i = 0; i < 20; i++) {
            Due.is("image " + i, 0, Edge.act(q, 1, 0, 1));
        }
        Due.is("units", 800, q.rover(7));
        Due.is("one image more", 4, Edge.act(q, 1, 0, 1));
        q.addPass(0, 1440, 13);
        Edge.act(q, 3, 3, 0);
        Due.is("units then", 761, q.rover(7));
        Due.is("one image more than 761", 4, Edge.act(q, 1, 0, 1));
    }

    private static void newIsEmpty() {
        Edge.of(1, "Creates a planner with flat ground, without targets, passes, data and a plan.");
        RoverPlanner p = new RoverPlanner();
        for (int what = 0; what <= 3; what++) {
            Due.is("count " + what, 0, p.count(what));
        }
        Due.outside("target", () -> p.target(0, 0));
        Due.outside("nearest", () -> p.nearest(0));
        Due.outside("piece", () -> p.piece(0, 0));
        Due.outside("activity", () -> p.activity(0, 0));
        Due.outside("remove", () -> p.remove(0));
        Due.outside("move", () -> p.move(0, 0));
        Due.outside("back", () -> p.back(0));
        Due.argument("put IMAGE", () -> p.put(0, 1, 0, 1));
        Due.argument("put TOUCH", () -> p.put(0, 2, 0, 1));
        Due.argument("foretell 1", () -> p.foretell(1, 0));
        Due.is("check", -1, p.check());
        Due.is("reason", 0, p.reason());
        Due.is("run", 0, p.run(40));
        Due.is("make", 0, p.make(2880));
        Due.is("score", 0, p.score());
        Due.is("sent", 1.0, p.sent());
        Due.is("foretell", 3000, p.foretell(0, 3));
        for (int part = 0; part < 3; part++) {
            RoverPlanner q = new RoverPlanner();
            for (int minute = 480 * part; minute < 480 * part + 480; minute++) {
                Due.is("rate " + minute, 0, q.rate(minute));
            }
        }
    }

    private static void lastCall() {
        Edge.of(1, "An object is used for at most 512 calls after it has been made");
        RoverPlanner p = new RoverPlanner();
        for (int call = 1; call <= 509; call += 2) {
            p.raise(0, 23, 0, 23, 1);
            p.raise(0, 23, 0, 23, -1);
        }
        Due.is("call 511", 8, p.raise(3, 4, 3, 4, 8));
        Due.is("call 512", 8, p.ground(4, 4, 0));
        RoverPlanner q = new RoverPlanner();
        q.addTarget(0, 0, 1, 3);
        for (int call = 2; call <= 511; call++) {
            q.make(5);
        }
        Due.is("call 512, behind many calls of make", 6, q.make(2880));
    }

    // ---- promise 2

    private static void raiseRectangles() {
        Edge.of(2, "x0 is less than 0 or greater than x1, x1 is greater than 23, y0 and y1 likewise");
        Due.is("all places", 1, new RoverPlanner().raise(0, 23, 0, 23, 1));
        Due.is("the first place", 1, new RoverPlanner().raise(0, 0, 0, 0, 1));
        Due.is("the last place", 1, new RoverPlanner().raise(23, 23, 23, 23, 1));
        RoverPlanner p = new RoverPlanner();
        Due.argument("x0 -1", () -> p.raise(-1, 23, 0, 23, 1));
        Due.argument("x1 24", () -> p.raise(0, 24, 0, 23, 1));
        Due.argument("y0 -1", () -> p.raise(0, 23, -1, 23, 1));
        Due.argument("y1 24", () -> p.raise(0, 23, 0, 24, 1));
        Due.argument("x0 is x1 and 1", () -> p.raise(8, 7, 0, 23, 1));
        Due.argument("y0 is y1 and 1", () -> p.raise(0, 23, 8, 7, 1));
        Due.argument("x0 and x1 24", () -> p.raise(24, 24, 0, 23, 1));
        Due.argument("y0 and y1 24", () -> p.raise(0, 23, 24, 24, 1));
        Due.argument("x0 and x1 -1", () -> p.raise(-1, -1, 0, 23, 1));
        Due.argument("y0 and y1 -1", () -> p.raise(0, 23, -1, -1, 1));
        Due.argument("no such rectangle, by 0", () -> p.raise(8, 7, 0, 23, 0));
        for (int far : Edge.FAR) {
            Due.argument("x0 " + far, () -> p.raise(far, 23, 0, 23, 1));
            Due.argument("x1 " + far, () -> p.raise(0, far, 0, 23, 1));
            Due.argument("y0 " + far, () -> p.raise(0, 23, far, 23, 1));
            Due.argument("y1 " + far, () -> p.raise(0, 23, 0, far, 1));
        }
        Due.is("nothing is raised", 0, p.raise(0, 23, 0, 23, 0));
        Edge.of(2, "Raises all places of a rectangle.");
        RoverPlanner q = new RoverPlanner();
        q.raise(7, 9, 20, 23, -5);
        for (int x = 6; x <= 10; x++) {
            for (int y = 19; y <= 23; y++) {
                Due.is("height of " + x + " " + y, x >= 7 && x <= 9 && y >= 20 ? -5 : 0, q.ground(x, y, 0));
            }
        }
        Due.is("the next row is as it was", 0, q.ground(0, 20, 0));
        Edge.of(2, "Returns the greatest height of them then.");
        q.raise(8, 8, 21, 21, 1);
        Due.is("less than 0", -4, q.raise(7, 9, 20, 23, 0));
        Due.is("the places beside it do not count", -5, q.raise(9, 9, 20, 23, 0));
        Due.is("the last one is the greatest", 0, q.raise(6, 9, 19, 23, 0));
    }

    private static void raiseHeights() {
        Edge.of(2, "or a height would not be -99 to 99");
        RoverPlanner p = new RoverPlanner();
        Due.is("to 99", 99, p.raise(0, 23, 0, 23, 99));
        Due.argument("to 100", () -> p.raise(0, 23, 0, 23, 1));
        Due.is("from 99 to -99", -99, p.raise(0, 23, 0, 23, -198));
        Due.argument("to -100", () -> p.raise(0, 23, 0, 23, -1));
        Due.argument("from -99 to 100", () -> p.raise(0, 23, 0, 23, 199));
        Due.is("from -99 to 99", 99, p.raise(0, 23, 0, 23, 198));
        Due.argument("from 99 to -100", () -> p.raise(0, 23, 0, 23, -199));
        Due.is("by 0 at 99", 99, p.raise(0, 23, 0, 23, 0));
        for (int far : Edge.FAR) {
            Due.argument("by " + far, () -> p.raise(5, 5, 5, 5, far));
        }
        Due.argument("by 2 ^ 31 less 99, which wraps around to a height", () -> new RoverPlanner().raise(0, 0, 0, 0, Integer.MAX_VALUE - 98));
        // the one place that cannot be raised is the last of all, the first of all, or between
        int[][] places = {{23, 23}, {0, 0}, {11, 12}, {0, 23}, {23, 0}};
        for (int[] place : places) {
            RoverPlanner q = new RoverPlanner();
            q.raise(place[0], place[0], place[1], place[1], 1);
            Due.argument("one of many to 100", () -> q.raise(0, 23, 0, 23, 99));
            Due.is("no other one is raised", 1, q.raise(0, 23, 0, 23, 0));
            Due.is("all are as they were: the first", place[0] + place[1] == 0 ? 1 : 0, q.ground(0, 0, 0));
            Due.is("all are as they were: the last", place[0] + place[1] == 46 ? 1 : 0, q.ground(23, 23, 0));
            Due.argument("one of many to -100", () -> q.raise(0, 23, 0, 23, -100));
            Due.is("the others can", 99, q.raise(0, 23, 0, 23, 98));
        }
    }

    // ---- promise 3

    private static void paveRectangles() {
        Edge.of(3, "x0 is less than 0 or greater than x1, x1 is greater than 23, y0 and y1 likewise");
        RoverPlanner p = new RoverPlanner();
        Due.argument("x0 -1", () -> p.pave(-1, 23, 0, 23, 1, true));
        Due.argument("x1 24", () -> p.pave(0, 24, 0, 23, 1, true));
        Due.argument("y0 -1", () -> p.pave(0, 23, -1, 23, 1, true));
        Due.argument("y1 24", () -> p.pave(0, 23, 0, 24, 1, true));
        Due.argument("x0 is x1 and 1", () -> p.pave(8, 7, 0, 23, 1, true));
        Due.argument("y0 is y1 and 1", () -> p.pave(0, 23, 8, 7, 1, true));
        Due.argument("x0 and x1 24", () -> p.pave(24, 24, 0, 23, 1, true));
        Due.argument("y0 and y1 24", () -> p.pave(0, 23, 24, 24, 1, true));
        for (int far : Edge.FAR) {
            Due.argument("x0 " + far, () -> p.pave(far, 23, 0, 23, 1, true));
            Due.argument("x1 " + far, () -> p.pave(0, far, 0, 23, 1, true));
            Due.argument("y0 " + far, () -> p.pave(0, 23, far, 23, 1, true));
            Due.argument("y1 " + far, () -> p.pave(0, 23, 0, far, 1, true));
        }
        untouched(p);
        Edge.of(3, "Returns the number of these places.");
        Due.is("all", 576, p.pave(0, 23, 0, 23, 0, false));
        Due.is("the first", 1, p.pave(0, 0, 0, 0, 0, false));
        Due.is("the last", 1, p.pave(23, 23, 23, 23, 0, false));
        Due.is("a row", 24, p.pave(0, 23, 23, 23, 0, false));
        Due.is("two columns", 48, p.pave(22, 23, 0, 23, 0, false));
    }

    private static void untouched(RoverPlanner p) {
        for (int i = 0; i < 24; i++) {
            Due.is("roughness as it was at " + i, 0, p.ground(i, i, 1));
            Due.is("hazard as it was at " + i, 0, p.ground(i, i, 2));
            Due.is("hazard as it was at the side " + i, 0, p.ground(0, i, 2));
        }
    }

    private static void paveRoughness() {
        Edge.of(3, "or rough is not 0 to 3");
        RoverPlanner p = new RoverPlanner();
        Due.argument("-1", () -> p.pave(0, 23, 0, 23, -1, true));
        Due.argument("4", () -> p.pave(0, 23, 0, 23, 4, true));
        for (int far : Edge.FAR) {
            Due.argument("" + far, () -> p.pave(0, 23, 0, 23, far, true));
        }
        untouched(p);
        for (int rough = 3; rough >= 0; rough--) {
            p.pave(0, 23, 0, 23, rough, false);
            Due.is("roughness", rough, p.ground(23, 23, 1));
            Due.is("roughness of the first", rough, p.ground(0, 0, 1));
        }
    }

    private static void paveHazards() {
        Edge.of(3, "Sets roughness and hazards of all places of a rectangle.");
        RoverPlanner p = new RoverPlanner();
        p.pave(7, 9, 20, 23, 3, true);
        for (int x = 6; x <= 10; x++) {
            for (int y = 19; y <= 23; y++) {
                boolean isIn = x >= 7 && x <= 9 && y >= 20;
                Due.is("hazard of " + x + " " + y, isIn ? 1 : 0, p.ground(x, y, 2));
                Due.is("roughness of " + x + " " + y, isIn ? 3 : 0, p.ground(x, y, 1));
            }
        }
        p.pave(9, 10, 23, 23, 1, false);
        Due.is("no hazard any more", 0, p.ground(9, 23, 2));
        Due.is("less rough", 1, p.ground(9, 23, 1));
        Due.is("the one beside it stays", 1, p.ground(8, 23, 2));
        p.raise(8, 8, 22, 22, 4);
        p.pave(8, 8, 22, 22, 2, true);
        Due.is("the height stays", 4, p.ground(8, 22, 0));
        p.raise(8, 8, 22, 22, 4);
        Due.is("raising leaves the hazard", 1, p.ground(8, 22, 2));
        Due.is("raising leaves the roughness", 2, p.ground(8, 22, 1));
    }

    // ---- promise 4

    private static void groundPlaces() {
        Edge.of(4, "if there is no such place, or what is not 0 to 2");
        RoverPlanner p = new RoverPlanner();
        p.raise(23, 23, 0, 0, 5);
        p.pave(0, 0, 23, 23, 3, true);
        Due.is("the greatest x", 5, p.ground(23, 0, 0));
        Due.is("the greatest y", 3, p.ground(0, 23, 1));
        Due.is("the greatest what", 1, p.ground(0, 23, 2));
        Due.is("no hazard", 0, p.ground(23, 0, 2));
        Due.outside("x -1", () -> p.ground(-1, 0, 0));
        Due.outside("x 24", () -> p.ground(24, 0, 0));
        Due.outside("y -1", () -> p.ground(0, -1, 0));
        Due.outside("y 24", () -> p.ground(0, 24, 0));
        Due.outside("x -1, though (23, 0) stands ahead of (0, 1)", () -> p.ground(-1, 1, 0));
        Due.outside("x 24, though (0, 1) stands behind (23, 0)", () -> p.ground(24, 22, 0));
        Due.outside("what -1", () -> p.ground(0, 0, -1));
        Due.outside("what 3", () -> p.ground(0, 0, 3));
        for (int far : Edge.FAR) {
            Due.outside("x " + far, () -> p.ground(far, 0, 0));
            Due.outside("y " + far, () -> p.ground(0, far, 0));
            Due.outside("what " + far, () -> p.ground(0, 0, far));
        }
    }

    // ---- promise 5

    private static void slopeLimits() {
        Edge.of(5, "if limit is not 0 to 99");
        RoverPlanner p = new RoverPlanner();
        Due.argument("-1", () -> p.setSlope(-1));
        Due.argument("100", () -> p.setSlope(100));
        for (int far : Edge.FAR) {
            Due.argument("" + far, () -> p.setSlope(far));
        }
        Edge.of(5, "Returns the limit before.");
        Due.is("the first", 12, p.setSlope(0));
        Due.is("behind 0", 0, p.setSlope(99));
        Due.argument("100", () -> p.setSlope(100));
        Due.is("behind 99", 99, p.setSlope(99));
        Due.is("the same again", 99, p.setSlope(1));
    }

    private static void slopeUsed() {
        Edge.of(5, "Sets the limit of slopes.");
        RoverPlanner p = new RoverPlanner();
        p.raise(1, 23, 0, 23, 1);
        p.setSlope(0);
        Due.is("limit 0, up by 1", -1, p.way(0, 0, 1, 0, 0));
        Due.is("limit 0, down by 1", -1, p.way(1, 0, 0, 0, 0));
        Due.is("limit 0, on one height", 4, p.way(0, 0, 0, 1, 0));
        p.setSlope(1);
        Due.is("limit 1, up by 1", 4, p.way(0, 0, 1, 0, 0));
        Due.is("limit 1, down by 1", 4, p.way(1, 0, 0, 0, 0));
        p.raise(1, 23, 0, 23, 98);
        p.setSlope(98);
        Due.is("limit 98, up by 99", -1, p.way(0, 0, 1, 0, 0));
        Due.is("limit 98, down by 99", -1, p.way(1, 0, 0, 0, 0));
        p.setSlope(99);
        Due.is("limit 99, up by 99", 37, p.way(0, 0, 1, 0, 0));
        Due.is("limit 99, down by 99", 4, p.way(1, 0, 0, 0, 0));
        p.raise(0, 0, 0, 23, -1);
        Due.is("limit 99, up by 100", -1, p.way(0, 0, 1, 0, 0));
        Due.is("limit 99, down by 100", -1, p.way(1, 0, 0, 0, 0));
        p.raise(0, 0, 0, 23, -98);
        Due.is("limit 99, up by 198", -1, p.way(0, 0, 1, 0, 0));
        Due.is("limit 99, down by 198", -1, p.way(1, 0, 0, 0, 0));
    }

    // ---- promise 6

    private static void wayPlaces() {
        Edge.of(6, "if there is no such place, or what is not 0 to 3");
        RoverPlanner p = new RoverPlanner();
        Due.is("the first place to the last one", 138, p.way(0, 0, 23, 23, 0));
        Due.is("the last place to the first one", 5, p.way(23, 23, 0, 0, 3));
        Due.outside("x0 -1", () -> p.way(-1, 0, 0, 0, 0));
        Due.outside("x0 24", () -> p.way(24, 0, 0, 0, 0));
        Due.outside("y0 -1", () -> p.way(0, -1, 0, 0, 0));
        Due.outside("y0 24", () -> p.way(0, 24, 0, 0, 0));
        Due.outside("x1 -1", () -> p.way(0, 0, -1, 0, 0));
        Due.outside("x1 24", () -> p.way(0, 0, 24, 0, 0));
        Due.outside("y1 -1", () -> p.way(0, 0, 0, -1, 0));
        Due.outside("y1 24", () -> p.way(0, 0, 0, 24, 0));
        Due.outside("both 24", () -> p.way(24, 24, 24, 24, 0));
        Due.outside("what -1", () -> p.way(0, 0, 0, 0, -1));
        Due.outside("what 4", () -> p.way(0, 0, 0, 0, 4));
        for (int far : Edge.FAR) {
            Due.outside("x0 " + far, () -> p.way(far, 0, 0, 0, 0));
            Due.outside("y0 " + far, () -> p.way(0, far, 0, 0, 0));
            Due.outside("x1 " + far, () -> p.way(0, 0, far, 0, 0));
            Due.outside("y1 " + far, () -> p.way(0, 0, 0, far, 0));
            Due.outside("what " + far, () -> p.way(0, 0, 0, 0, far));
        }
    }

    /** Minutes, energy, steps and the first direction, as one text. */
    private static String way(RoverPlanner p, int x0, int y0, int x1, int y1) {
        return p.way(x0, y0, x1, y1, 0) + " " + p.way(x0, y0, x1, y1, 1) + " " + p.way(x0, y0, x1, y1, 2) + " " + p.way(x0, y0, x1, y1, 3);
    }

    /** Ground that is all hazards, but for these places. */
    private static RoverPlanner only(int... places) {
        RoverPlanner p = new RoverPlanner();
        p.pave(0, 23, 0, 23, 0, true);
        for (int i = 0; i + 1 < places.length; i += 2) {
            p.pave(places[i], places[i], places[i + 1], places[i + 1], 0, false);
        }
        return p;
    }

    private static void stepsLeadToPlaces() {
        Edge.of(6, "if the place to which it leads is there, and no hazard");
        Due.is("(23, 0) is not beside (0, 1)", "-1 -1 -1 -1", way(only(23, 0, 0, 1), 23, 0, 0, 1));
        Due.is("(0, 1) is not beside (23, 0)", "-1 -1 -1 -1", way(only(23, 0, 0, 1), 0, 1, 23, 0));
        Due.is("(23, 0) is not beside (0, 2)", "-1 -1 -1 -1", way(only(23, 0, 0, 2), 23, 0, 0, 2));
        Due.is("(23, 0) is not beside (0, 0)", "-1 -1 -1 -1", way(only(23, 0, 0, 0), 23, 0, 0, 0));
        Due.is("(0, 23) is not beside (0, 0)", "-1 -1 -1 -1", way(only(0, 23, 0, 0), 0, 23, 0, 0));
        Due.is("(23, 23) is not beside (0, 0)", "-1 -1 -1 -1", way(only(23, 23, 0, 0), 23, 23, 0, 0));
        Due.is("along the greatest x", "92 368 23 2", way(new RoverPlanner(), 23, 0, 23, 23));
        Due.is("along the greatest y", "92 368 23 4", way(new RoverPlanner(), 23, 23, 0, 23));
        Due.is("into a hazard", "-1 -1 -1 -1", way(only(5, 5), 5, 5, 6, 5));
        Due.is("into what is a hazard no more", "4 16 1 0", way(only(5, 5, 6, 5), 5, 5, 6, 5));
    }

    private static void stepsPastHazards() {
        Edge.of(6, "and if, for the directions 1, 3, 5 and 7, neither of the two places beside it (with the x of one and the y of the other place) is a hazard");
        for (int d = 0; d < 8; d++) {
            int toX = 5 + STEP_X[d];
            int toY = 5 + STEP_Y[d];
            if (d % 2 == 0) {
                Due.is("direction " + d + " between hazards", "4 16 1 " + d, way(only(5, 5, toX, toY), 5, 5, toX, toY));
            } else {
                int flat = STEP_X[d] > 0 ? 0 : 4;
                int steep = STEP_Y[d] > 0 ? 2 : 6;
                Due.is("direction " + d + " between two hazards", "-1 -1 -1 -1", way(only(5, 5, toX, toY), 5, 5, toX, toY));
                Due.is("direction " + d + " past a hazard with its y", "8 32 2 " + flat, way(only(5, 5, toX, toY, toX, 5), 5, 5, toX, toY));
                Due.is("direction " + d + " past a hazard with its x", "8 32 2 " + steep, way(only(5, 5, toX, toY, 5, toY), 5, 5, toX, toY));
                Due.is("direction " + d + " past no hazard", "6 24 1 " + d, way(only(5, 5, toX, toY, 5, toY, toX, 5), 5, 5, toX, toY));
            }
        }
        RoverPlanner p = new RoverPlanner();
        p.setSlope(0);
        p.raise(1, 1, 0, 0, 99);
        p.raise(0, 0, 1, 1, -99);
        Due.is("past heights, which are no hazards", "6 24 1 1", way(p, 0, 0, 1, 1));
    }

    private static void stepsUpAndDown() {
        Edge.of(6, "if both heights differ by at most the limit of slopes (12, at first)");
        for (int d = 0; d < 8; d++) {
            int toX = 5 + STEP_X[d];
            int toY = 5 + STEP_Y[d];
            RoverPlanner p = new RoverPlanner();
            p.raise(toX, toX, toY, toY, 12);
            Due.is("up by 12 in the direction " + d, d, p.way(5, 5, toX, toY, 3));
            Due.is("down by 12 in the direction " + (d + 4) % 8, (d + 4) % 8, p.way(toX, toY, 5, 5, 3));
            p.raise(toX, toX, toY, toY, 1);
            Due.is("up by 13", -1, p.way(5, 5, toX, toY, 0));
            Due.is("down by 13", -1, p.way(toX, toY, 5, 5, 0));
        }
    }

    private static void stepsCost() {
        Edge.of(6, "Its climb is the height there, less that here, but at least 0.");
        RoverPlanner down = new RoverPlanner();
        down.raise(0, 0, 0, 0, 12);
        Due.is("down by 12", "4 16 1 0", way(down, 0, 0, 1, 0));
        Due.is("down by 12, aslant", "6 24 1 1", way(down, 0, 0, 1, 1));
        Edge.of(6, "multiplied by the sum of 2 and the roughness there, and then a third of its climb more; its energy is 4 times its minutes, and twice its climb more");
        int[] thirds = {0, 0, 0, 1, 1, 1, 2, 2, 2, 3, 3, 3, 4};
        for (int climb = 0; climb <= 12; climb++) {
            RoverPlanner p = new RoverPlanner();
            p.raise(1, 23, 0, 23, climb);
            int straight = 4 + thirds[climb];
            int aslant = 6 + thirds[climb];
            Due.is("up by " + climb, straight + " " + (4 * straight + 2 * climb) + " 1 0", way(p, 0, 0, 1, 0));
            Due.is("up by " + climb + ", aslant", aslant + " " + (4 * aslant + 2 * climb) + " 1 1", way(p, 0, 0, 1, 1));
        }
        for (int rough = 0; rough <= 3; rough++) {
            RoverPlanner p = new RoverPlanner();
            p.pave(1, 1, 0, 23, rough, false);
            int straight = 2 * (2 + rough);
            int aslant = 3 * (2 + rough);
            Due.is("onto the roughness " + rough, straight + " " + 4 * straight + " 1 0", way(p, 0, 0, 1, 0));
            Due.is("off it", "4 16 1 0", way(p, 1, 0, 2, 0));
            p.raise(1, 1, 0, 0, 99);
            p.raise(0, 0, 1, 1, -99);
            Due.is("onto the roughness " + rough + ", aslant past a peak and a hole", aslant + " " + 4 * aslant + " 1 1", way(p, 0, 0, 1, 1));
        }
        RoverPlanner p = new RoverPlanner();
        p.pave(1, 1, 1, 1, 3, false);
        p.raise(1, 1, 1, 1, 11);
        p.raise(1, 1, 0, 0, 99);
        p.raise(0, 0, 1, 1, -99);
        Due.is("aslant, rough and up by 11", "18 94 1 1", way(p, 0, 0, 1, 1));
        int[][] corners = {{0, 0, 1, 0, 4}, {23, 0, 23, 1, 6}, {0, 23, 0, 22, 2}, {23, 23, 22, 23, 0}};
        for (int[] c : corners) {
            RoverPlanner q = new RoverPlanner();
            q.raise(c[0], c[0], c[1], c[1], 3);
            Due.is("up by 3 into the corner " + c[0] + " " + c[1], "5 26 1 " + c[4], way(q, c[2], c[3], c[0], c[1]));
        }
    }

    private static void waysWithoutSteps() {
        Edge.of(6, "let the cost of a place be the least number of minutes of steps that lead from it to the goal (0 at the goal)");
        Due.is("from a place to itself", "0 0 0 -1", way(new RoverPlanner(), 23, 23, 23, 23));
        Due.is("from a hazard to itself", "0 0 0 -1", way(only(), 7, 8, 7, 8));
        Edge.of(6, "3 the direction of its first step (-1 if it has none)");
        Due.is("of no step", -1, new RoverPlanner().way(0, 0, 0, 0, 3));
        Due.is("of one step", 0, new RoverPlanner().way(0, 0, 1, 0, 3));
        Edge.of(6, "Returns this; -1 if there is no way.");
        Due.is("from a hazard to another one", "-1 -1 -1 -1", way(only(), 7, 8, 7, 9));
        Due.is("to a place without any beside it", "-1 -1 -1 -1", way(only(0, 0, 2, 0), 0, 0, 2, 0));
        Edge.of(6, "There is none, if no steps lead to the goal. (The place where one begins may be a hazard.)");
        Due.is("out of a hazard", "4 16 1 0", way(only(1, 0), 0, 0, 1, 0));
        Due.is("and not into it again", "-1 -1 -1 -1", way(only(1, 0), 1, 0, 0, 0));
        Due.is("out of a hazard, aslant past hazards", "-1 -1 -1 -1", way(only(1, 1), 0, 0, 1, 1));
        Due.is("not through a hazard", "-1 -1 -1 -1", way(only(0, 0, 2, 0), 0, 0, 2, 0));
        RoverPlanner cliff = new RoverPlanner();
        cliff.raise(5, 5, 5, 5, 13);
        // from (6, 5), 5 minutes away, no steps lead to the goal, which is 4 minutes away
        RoverPlanner split = only(4, 5, 6, 5);
        split.raise(6, 6, 5, 5, 3);
        Due.is("out of a hazard, away from where no steps lead to the goal", "4 16 1 4", way(split, 5, 5, 4, 5));
        // from the hazard (5, 6) the way takes 7 minutes, from (5, 5) 6: but no step leads into it
        RoverPlanner beside = only(5, 5, 4, 5, 4, 6);
        beside.raise(4, 4, 5, 5, 6);
        beside.raise(5, 5, 6, 6, 3);
        Due.is("from the hazard", 7, beside.way(5, 6, 4, 5, 0));
        Due.is("past the hazard", "6 36 1 4", way(beside, 5, 5, 4, 5));
        Due.is("onto a place that is too high on all sides", "-1 -1 -1 -1", way(cliff, 0, 0, 5, 5));
        Due.is("off it", "-1 -1 -1 -1", way(cliff, 5, 5, 0, 0));
    }

    private static void waysOfEqualMinutes() {
        Edge.of(6, "From each place the way goes on in the first direction for which the minutes of the step, and the cost of the place to which it leads, are together the cost of the place.");
        RoverPlanner p = new RoverPlanner();
        // the x and y of a goal, and the two directions that are as good
        int[][] goals = {{12, 11, 0, 1}, {12, 9, 0, 7}, {11, 12, 1, 2}, {9, 12, 2, 3}, {8, 11, 3, 4}, {8, 9, 4, 5}, {9, 8, 5, 6}, {11, 8, 6, 7}};
        for (int[] g : goals) {
            Due.is("to " + g[0] + " " + g[1] + ": of " + g[2] + " and " + g[3], "10 40 2 " + g[2], way(p, 10, 10, g[0], g[1]));
        }
        RoverPlanner rough = new RoverPlanner();
        rough.pave(1, 1, 1, 1, 3, false);
        Due.is("14 minutes round the corner, where the one step aslant takes 15", "14 56 2 0", way(rough, 0, 0, 1, 1));
        // two ways round a hazard, with as many minutes, and with another energy: over a hill of 2 the climb costs no minutes
        RoverPlanner q = new RoverPlanner();
        q.pave(6, 6, 5, 5, 0, true);
        Due.is("round a hazard: the greater y comes first", "16 64 4 2", way(q, 5, 5, 7, 5));
        q.raise(6, 6, 6, 6, 2);
        Due.is("over a hill of 2 that costs no minutes", "16 68 4 2", way(q, 5, 5, 7, 5));
        q.raise(6, 6, 6, 6, 1);
        Due.is("not over a hill of 3", "16 64 4 6", way(q, 5, 5, 7, 5));
    }

    /** Rows 0, 2, .. 22, each to its end and then to the next one: 12 times 23 steps, and 11 times 2 between them. */
    private static void longestWay() {
        Edge.of(6, "2 its steps");
        RoverPlanner p = new RoverPlanner();
        for (int y = 1; y < 24; y += 2) {
            p.pave(0, 23, y, y, 0, true);
            int gap = y % 4 == 1 ? 23 : 0;
            if (y < 23) {
                p.pave(gap, gap, y, y, 0, false);
            }
        }
        Due.is("through all rows", "1192 4768 298 0", way(p, 0, 0, 0, 22));
        Due.is("and back", "1192 4768 298 0", way(p, 0, 22, 0, 0));
        p.pave(0, 23, 0, 23, 3, false);
        for (int y = 1; y < 24; y += 2) {
            p.pave(0, 23, y, y, 3, true);
            int gap = y % 4 == 1 ? 23 : 0;
            p.pave(gap, gap, y, y, 3, false);
        }
        Due.is("through all rough rows", "2980 11920 298 0", way(p, 0, 0, 0, 22));
    }

    // ---- promise 7

    private static void seesPlaces() {
        Edge.of(7, "if there is no such place");
        RoverPlanner p = new RoverPlanner();
        Due.is("the first place sees the last one", true, p.sees(0, 0, 23, 23));
        Due.is("the last place sees the first one", true, p.sees(23, 23, 0, 0));
        Due.outside("x0 -1", () -> p.sees(-1, 0, 0, 0));
        Due.outside("x0 24", () -> p.sees(24, 0, 0, 0));
        Due.outside("y0 -1", () -> p.sees(0, -1, 0, 0));
        Due.outside("y0 24", () -> p.sees(0, 24, 0, 0));
        Due.outside("x1 -1", () -> p.sees(0, 0, -1, 0));
        Due.outside("x1 24", () -> p.sees(0, 0, 24, 0));
        Due.outside("y1 -1", () -> p.sees(0, 0, 0, -1));
        Due.outside("y1 24", () -> p.sees(0, 0, 0, 24));
        for (int far : Edge.FAR) {
            Due.outside("x0 " + far, () -> p.sees(far, 0, 0, 0));
            Due.outside("y0 " + far, () -> p.sees(0, far, 0, 0));
            Due.outside("x1 " + far, () -> p.sees(0, 0, far, 0));
            Due.outside("y1 " + far, () -> p.sees(0, 0, 0, far));
        }
    }

    private static void seesNear() {
        Edge.of(7, "For k = 1 .. n - 1 the place between is");
        RoverPlanner p = new RoverPlanner();
        p.raise(5, 5, 5, 5, -99);
        p.raise(6, 6, 5, 5, 99);
        Due.is("n 0: itself", true, p.sees(5, 5, 5, 5));
        Due.is("n 1: up by 198", true, p.sees(5, 5, 6, 5));
        Due.is("n 1: down by 198", true, p.sees(6, 5, 5, 5));
        Due.is("n 2: one is between", false, p.sees(5, 5, 7, 5));
        Due.is("n 2: from above", true, p.sees(6, 5, 4, 5));
        RoverPlanner q = new RoverPlanner();
        q.raise(0, 0, 0, 0, -99);
        Due.is("the place itself is not between", true, q.sees(0, 0, 1, 1));
        q.raise(2, 2, 0, 0, 99);
        Due.is("the other place is not between", true, q.sees(1, 0, 2, 0));
    }

    /** The greatest height at the place k of n, so that b is still seen from a, and one more. */
    private static void most(int heightA, int heightB, int n, int k, int due) {
        String call = "height " + heightA + " to " + heightB + ", place " + k + " of " + n + ": ";
        for (int turn = 0; turn < 4; turn++) {
            int dx = turn == 0 ? 1 : turn == 1 ? -1 : 0;
            int dy = turn == 2 ? 1 : turn == 3 ? -1 : 0;
            RoverPlanner p = new RoverPlanner();
            p.raise(0, 23, 0, 23, -99);
            p.raise(11, 11, 11, 11, 99 + heightA);
            p.raise(11 + n * dx, 11 + n * dx, 11 + n * dy, 11 + n * dy, 99 + heightB);
            p.raise(11 + k * dx, 11 + k * dx, 11 + k * dy, 11 + k * dy, 99 + due);
            Due.is(call + due, true, p.sees(11, 11, 11 + n * dx, 11 + n * dy));
            p.raise(11 + k * dx, 11 + k * dx, 11 + k * dy, 11 + k * dy, 1);
            Due.is(call + (due + 1), false, p.sees(11, 11, 11 + n * dx, 11 + n * dy));
        }
    }

    private static void seesHeights() {
        Edge.of(7, "b is seen from a, if at each of them the height is at most the one of a, and 3, and (the height of b less that of a, less 3) * k / n.");
        // cut towards 0: 3 and -3 / 2, which is -1
        most(0, 0, 2, 1, 2);
        most(0, 0, 3, 1, 2);
        most(0, 0, 3, 2, 1);
        most(0, 0, 4, 1, 3);
        most(0, 0, 4, 2, 2);
        most(0, 0, 4, 3, 1);
        most(0, 0, 11, 3, 3);
        most(0, 0, 11, 4, 2);
        most(0, 0, 11, 10, 1);
        // nothing is cut where b is 3 higher
        most(0, 3, 5, 4, 3);
        most(7, 10, 2, 1, 10);
        // up: 3 and 7 / 2, and below 0
        most(0, 10, 2, 1, 6);
        most(-50, 10, 2, 1, -19);
        most(-99, 98, 2, 1, 1);
        most(-99, 98, 11, 10, 80);
        // down: 102 and -201 / 2
        most(98, -99, 2, 1, 1);
        most(98, -99, 11, 10, -80);
        most(10, 0, 2, 1, 7);
    }

    /** What is between a and b is this place, and none beside it. */
    private static void between(int ax, int ay, int bx, int by, int... places) {
        RoverPlanner p = new RoverPlanner();
        p.raise(0, 23, 0, 23, 20);
        p.raise(ax, ax, ay, ay, -20);
        p.raise(bx, bx, by, by, -20);
        String call = "from " + ax + " " + ay + " to " + bx + " " + by;
        for (int i = 0; i + 1 < places.length; i += 2) {
            p.raise(places[i], places[i], places[i + 1], places[i + 1], -20);
        }
        Due.is(call + " past all others", true, p.sees(ax, ay, bx, by));
        for (int i = 0; i + 1 < places.length; i += 2) {
            p.raise(places[i], places[i], places[i + 1], places[i + 1], 20);
            Due.is(call + " over " + places[i] + " " + places[i + 1], false, p.sees(ax, ay, bx, by));
            p.raise(places[i], places[i], places[i + 1], places[i + 1], -20);
        }
    }

    private static void seesPlacesBetween() {
        Edge.of(7, "(ax + (2 * k * dx + n) / (2 * n), and likewise y), where this one division goes down to the next lower whole number");
        // half a place goes up, also where dx or dy is less than 0
        between(5, 5, 7, 6, 6, 6);
        between(5, 5, 7, 4, 6, 5);
        between(5, 5, 3, 6, 4, 6);
        between(5, 5, 3, 4, 4, 5);
        between(5, 5, 6, 7, 6, 6);
        between(5, 5, 4, 7, 5, 6);
        between(5, 5, 6, 3, 6, 4);
        between(5, 5, 4, 3, 5, 4);
        // a third goes back, two thirds go on
        between(5, 5, 8, 6, 6, 5, 7, 6);
        between(5, 5, 2, 4, 4, 5, 3, 4);
        between(5, 5, 8, 4, 6, 5, 7, 4);
        between(5, 5, 4, 2, 5, 4, 4, 3);
        between(5, 5, 8, 7, 6, 6, 7, 6);
        between(5, 5, 2, 3, 4, 4, 3, 4);
        // at the sides
        between(0, 0, 0, 3, 0, 1, 0, 2);
        between(23, 23, 20, 20, 22, 22, 21, 21);
        between(0, 1, 2, 0, 1, 1);
        between(1, 0, 0, 2, 1, 1);
    }
}
