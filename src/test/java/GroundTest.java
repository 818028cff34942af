/** Promises 1 to 7: a new object, and the ground. */
public final class GroundTest {
    private static final int[] BEYOND = {-1, 24, Integer.MIN_VALUE, Integer.MAX_VALUE};

    public static void main(String[] args) {
        newObject();
        raising();
        raisingWrong();
        paving();
        groundTold();
        slopes();
        waysOnPlainGround();
        waysRoundHazards();
        waysUpAndDown();
        waysWrong();
        sight();
        sightBetweenPlaces();
        Due.end("GroundTest");
    }

    private static void newObject() {
        RoverPlanner p = new RoverPlanner();
        for (int x = 0; x < 24; x++) {
            for (int what = 0; what <= 2; what++) {
                Due.is("new: ground " + x + " " + (23 - x) + " " + what, 0, p.ground(x, 23 - x, what));
            }
        }
        int[] rover = {0, 0, 0, 3000, -20, 0, 100, 0, 0, 0};
        for (int what = 0; what <= 9; what++) {
            Due.is("new: rover " + what, rover[what], p.rover(what));
        }
        for (int what = 0; what <= 3; what++) {
            Due.is("new: count " + what, 0, p.count(what));
        }
        Due.is("new: rate", 0, p.rate(700));
        Due.is("new: score", 0, p.score());
        Due.is("new: sent", 1.0, p.sent());
        Due.is("new: check", -1, p.check());
        Due.is("new: limit of slopes", 12, p.setSlope(12));
        Due.is("new: capacity", 4000, p.setRover(4000, 800));
        Due.is("two objects", 7, new RoverPlanner().raise(0, 0, 0, 0, 7));
        Due.is("two objects: the other", 0, p.ground(0, 0, 0));
    }

    private static void raising() {
        RoverPlanner p = new RoverPlanner();
        Due.is("raise one", 5, p.raise(3, 4, 6, 8, 5));
        for (int x = 2; x <= 5; x++) {
            for (int y = 5; y <= 9; y++) {
                boolean isIn = x >= 3 && x <= 4 && y >= 6 && y <= 8;
                Due.is("raised " + x + " " + y, isIn ? 5 : 0, p.ground(x, y, 0));
            }
        }
        Due.is("raise over more", 2, p.raise(4, 5, 8, 9, -3));
        Due.is("lowered both", 2, p.ground(4, 8, 0));
        Due.is("lowered one", -3, p.ground(5, 9, 0));
        Due.is("greatest is less than 0", -1, p.raise(0, 0, 0, 0, -1));
        Due.is("up to 99", 99, p.raise(3, 3, 6, 6, 94));
        Due.is("down to -99", -99, p.raise(23, 23, 23, 23, -99));
        Due.is("from -99 to 99", 99, p.raise(23, 23, 23, 23, 198));
        Due.is("from 99 to -99", -99, p.raise(23, 23, 23, 23, -198));
        Due.is("all of it", 99, p.raise(0, 23, 0, 23, 0));
        Due.is("roughness is as it was", 0, p.ground(3, 6, 1));
    }

    private static void raisingWrong() {
        RoverPlanner p = new RoverPlanner();
        for (int beyond : BEYOND) {
            Due.argument("raise x0 " + beyond, () -> p.raise(beyond, 3, 0, 3, 1));
            Due.argument("raise x1 " + beyond, () -> p.raise(0, beyond, 0, 3, 1));
            Due.argument("raise y0 " + beyond, () -> p.raise(0, 3, beyond, 3, 1));
            Due.argument("raise y1 " + beyond, () -> p.raise(0, 3, 0, beyond, 1));
        }
        Due.argument("raise x0 greater", () -> p.raise(4, 3, 0, 3, 1));
        Due.argument("raise y0 greater", () -> p.raise(0, 3, 4, 3, 1));
        p.raise(5, 5, 5, 5, 1);
        Due.argument("raise one beyond 99", () -> p.raise(4, 6, 4, 6, 99));
        Due.is("nothing is changed", 0, p.ground(4, 4, 0));
        Due.argument("raise beyond -99", () -> p.raise(0, 0, 0, 0, -100));
        for (int by : new int[] {Integer.MAX_VALUE, Integer.MIN_VALUE, 1 << 30, 199, -199}) {
            Due.argument("raise by " + by, () -> p.raise(5, 5, 5, 5, by));
        }
    }

    private static void paving() {
        RoverPlanner p = new RoverPlanner();
        Due.is("pave", 12, p.pave(2, 4, 5, 8, 3, false));
        for (int x = 1; x <= 5; x++) {
            for (int y = 4; y <= 9; y++) {
                boolean isIn = x >= 2 && x <= 4 && y >= 5 && y <= 8;
                Due.is("paved " + x + " " + y, isIn ? 3 : 0, p.ground(x, y, 1));
                Due.is("hazard " + x + " " + y, 0, p.ground(x, y, 2));
            }
        }
        Due.is("pave a hazard", 1, p.pave(2, 2, 5, 5, 1, true));
        Due.is("its hazard", 1, p.ground(2, 5, 2));
        Due.is("its roughness", 1, p.ground(2, 5, 1));
        Due.is("no more a hazard", 576, p.pave(0, 23, 0, 23, 0, false));
        Due.is("its hazard then", 0, p.ground(2, 5, 2));
        Due.is("its roughness then", 0, p.ground(2, 5, 1));
        for (int beyond : BEYOND) {
            Due.argument("pave x0 " + beyond, () -> p.pave(beyond, 3, 0, 3, 1, true));
            Due.argument("pave x1 " + beyond, () -> p.pave(0, beyond, 0, 3, 1, true));
            Due.argument("pave y0 " + beyond, () -> p.pave(0, 3, beyond, 3, 1, true));
            Due.argument("pave y1 " + beyond, () -> p.pave(0, 3, 0, beyond, 1, true));
        }
        Due.argument("pave x0 greater", () -> p.pave(4, 3, 0, 3, 1, true));
        Due.argument("pave y0 greater", () -> p.pave(0, 3, 4, 3, 1, true));
        Due.argument("pave rough -1", () -> p.pave(0, 3, 0, 3, -1, true));
        Due.argument("pave rough 4", () -> p.pave(0, 3, 0, 3, 4, true));
        Due.is("nothing is changed", 0, p.ground(0, 0, 2));
    }

    private static void groundTold() {
        RoverPlanner p = new RoverPlanner();
        p.raise(1, 1, 2, 2, -8);
        p.pave(1, 1, 2, 2, 2, true);
        Due.is("height", -8, p.ground(1, 2, 0));
        Due.is("roughness", 2, p.ground(1, 2, 1));
        Due.is("hazard", 1, p.ground(1, 2, 2));
        Due.is("x and y are not changed over", 0, p.ground(2, 1, 0));
        for (int beyond : BEYOND) {
            Due.outside("ground x " + beyond, () -> p.ground(beyond, 0, 0));
            Due.outside("ground y " + beyond, () -> p.ground(0, beyond, 0));
        }
        Due.outside("ground what -1", () -> p.ground(0, 0, -1));
        Due.outside("ground what 3", () -> p.ground(0, 0, 3));
    }

    private static void slopes() {
        RoverPlanner p = new RoverPlanner();
        Due.is("setSlope 0", 12, p.setSlope(0));
        Due.is("setSlope 99", 0, p.setSlope(99));
        Due.argument("setSlope -1", () -> p.setSlope(-1));
        Due.argument("setSlope 100", () -> p.setSlope(100));
        Due.is("nothing is changed", 99, p.setSlope(5));
        p.raise(1, 23, 0, 23, 6);
        Due.is("up beyond the limit", -1, p.way(0, 0, 1, 0, 0));
        Due.is("down beyond the limit", -1, p.way(1, 0, 0, 0, 0));
        p.setSlope(6);
        Due.is("up to the limit", 6, p.way(0, 0, 1, 0, 0));
        Due.is("down to the limit", 4, p.way(1, 0, 0, 0, 0));
    }

    private static void waysOnPlainGround() {
        RoverPlanner p = new RoverPlanner();
        way(p, 4, 4, 4, 4, 0, 0, 0, -1);
        way(p, 0, 0, 5, 0, 20, 80, 5, 0);
        way(p, 0, 0, 5, 3, 26, 104, 5, 0);
        // each direction by itself
        way(p, 4, 4, 5, 4, 4, 16, 1, 0);
        way(p, 4, 4, 5, 5, 6, 24, 1, 1);
        way(p, 4, 4, 4, 5, 4, 16, 1, 2);
        way(p, 4, 4, 3, 5, 6, 24, 1, 3);
        way(p, 4, 4, 3, 4, 4, 16, 1, 4);
        way(p, 4, 4, 3, 3, 6, 24, 1, 5);
        way(p, 4, 4, 4, 3, 4, 16, 1, 6);
        way(p, 4, 4, 5, 3, 6, 24, 1, 7);
        // the first one of equal directions
        way(p, 4, 4, 6, 7, 16, 64, 3, 1);
        way(p, 4, 4, 2, 7, 16, 64, 3, 2);
        way(p, 4, 4, 1, 3, 14, 56, 3, 4);
        way(p, 4, 4, 6, 3, 10, 40, 2, 0);
        way(p, 0, 0, 23, 23, 138, 552, 23, 1);
        way(p, 23, 23, 0, 0, 138, 552, 23, 5);
        // the roughness is that of the place to which a step leads
        p.pave(5, 5, 0, 23, 2, false);
        way(p, 4, 4, 5, 4, 8, 32, 1, 0);
        way(p, 5, 4, 4, 4, 4, 16, 1, 4);
        way(p, 4, 4, 5, 5, 12, 48, 1, 1);
        p.pave(5, 5, 0, 23, 3, false);
        way(p, 4, 4, 6, 4, 14, 56, 2, 0);
    }

    private static void waysRoundHazards() {
        RoverPlanner p = new RoverPlanner();
        p.pave(2, 2, 0, 4, 0, true);
        way(p, 0, 0, 5, 0, 54, 216, 12, 1);
        way(p, 0, 0, 2, 0, -1, -1, -1, -1);
        // one begins in a hazard, and goes out of it past no other one
        way(p, 2, 0, 5, 0, 12, 48, 3, 0);
        way(p, 2, 0, 2, 0, 0, 0, 0, -1);
        way(p, 2, 4, 3, 5, 6, 24, 1, 1);
        way(p, 2, 3, 3, 4, 8, 32, 2, 0);
        // a corner is not cut, on neither side
        way(p, 1, 4, 2, 5, 8, 32, 2, 2);
        way(p, 2, 5, 1, 4, 8, 32, 2, 4);
        way(p, 3, 4, 2, 5, 8, 32, 2, 2);
        way(p, 2, 5, 3, 4, 8, 32, 2, 0);
        p.pave(2, 2, 0, 23, 0, true);
        way(p, 0, 0, 5, 0, -1, -1, -1, -1);
        p.pave(2, 2, 23, 23, 0, false);
        way(p, 0, 23, 4, 23, 16, 64, 4, 0);
    }

    private static void waysUpAndDown() {
        RoverPlanner p = new RoverPlanner();
        p.raise(1, 23, 0, 23, 11);
        // 4 and 11 / 3, 4 times 7 and 22
        way(p, 0, 0, 1, 0, 7, 50, 1, 0);
        way(p, 1, 0, 0, 0, 4, 16, 1, 4);
        way(p, 0, 0, 1, 1, 9, 58, 1, 1);
        way(p, 0, 0, 3, 0, 15, 82, 3, 0);
        p.raise(1, 23, 0, 23, 1);
        way(p, 0, 0, 1, 0, 8, 56, 1, 0);
        RoverPlanner corners = new RoverPlanner();
        corners.raise(0, 0, 0, 0, 3);
        corners.raise(23, 23, 23, 23, 3);
        way(corners, 1, 0, 0, 0, 5, 26, 1, 4);
        way(corners, 22, 23, 23, 23, 5, 26, 1, 0);
        p.raise(1, 23, 0, 23, 1);
        way(p, 0, 0, 1, 0, -1, -1, -1, -1);
        way(p, 1, 0, 0, 0, -1, -1, -1, -1);
        // round a hill is less than over it
        RoverPlanner q = new RoverPlanner();
        q.raise(3, 3, 0, 1, 12);
        way(q, 2, 0, 4, 0, 12, 72, 2, 0);
        q.raise(3, 3, 0, 0, 12);
        q.setSlope(99);
        // as many minutes, but not the same energy
        way(q, 2, 0, 4, 0, 16, 112, 2, 0);
        q.raise(3, 3, 0, 0, 3);
        way(q, 2, 0, 4, 0, 16, 88, 2, 1);
    }

    private static void way(RoverPlanner p, int x0, int y0, int x1, int y1, int minutes, int energy, int steps, int direction) {
        String call = "way " + x0 + " " + y0 + " " + x1 + " " + y1 + " ";
        Due.is(call + 0, minutes, p.way(x0, y0, x1, y1, 0));
        Due.is(call + 1, energy, p.way(x0, y0, x1, y1, 1));
        Due.is(call + 2, steps, p.way(x0, y0, x1, y1, 2));
        Due.is(call + 3, direction, p.way(x0, y0, x1, y1, 3));
    }

    private static void waysWrong() {
        RoverPlanner p = new RoverPlanner();
        for (int beyond : BEYOND) {
            Due.outside("way x0 " + beyond, () -> p.way(beyond, 0, 0, 0, 0));
            Due.outside("way y0 " + beyond, () -> p.way(0, beyond, 0, 0, 0));
            Due.outside("way x1 " + beyond, () -> p.way(0, 0, beyond, 0, 0));
            Due.outside("way y1 " + beyond, () -> p.way(0, 0, 0, beyond, 0));
            Due.outside("sees x0 " + beyond, () -> p.sees(beyond, 0, 0, 0));
            Due.outside("sees y0 " + beyond, () -> p.sees(0, beyond, 0, 0));
            Due.outside("sees x1 " + beyond, () -> p.sees(0, 0, beyond, 0));
            Due.outside("sees y1 " + beyond, () -> p.sees(0, 0, 0, beyond));
        }
        Due.outside("way what -1", () -> p.way(0, 0, 0, 0, -1));
        Due.outside("way what 4", () -> p.way(0, 0, 0, 0, 4));
    }

    private static void sight() {
        // on plain ground at most 3, 2 and 1 between (0, 0) and (4, 0)
        for (int x = 1; x <= 3; x++) {
            RoverPlanner p = new RoverPlanner();
            p.raise(x, x, 0, 0, 4 - x);
            Due.is("sees past the height " + (4 - x) + " at " + x, true, p.sees(0, 0, 4, 0));
            p.raise(x, x, 0, 0, 1);
            Due.is("sees past the height " + (5 - x) + " at " + x, false, p.sees(0, 0, 4, 0));
        }
        RoverPlanner p = new RoverPlanner();
        Due.is("sees itself", true, p.sees(7, 7, 7, 7));
        p.raise(5, 5, 0, 23, 99);
        Due.is("sees what is beside it", true, p.sees(4, 4, 5, 5));
        Due.is("sees down", true, p.sees(5, 5, 4, 4));
        Due.is("does not see over a wall", false, p.sees(4, 4, 6, 4));
        Due.is("nor across it", false, p.sees(2, 4, 8, 7));
        p.raise(6, 6, 0, 23, 96);
        // at half the way: 3 and 93 / 2, which is 49
        p.raise(4, 5, 0, 23, -99);
        p.raise(5, 5, 0, 23, 49);
        p.raise(4, 4, 0, 23, 99);
        Due.is("sees up a slope", true, p.sees(4, 4, 6, 4));
        p.raise(5, 5, 4, 4, 1);
        Due.is("sees up a steeper slope", 1, p.sees(4, 4, 6, 4) ? 0 : 1);
        Due.is("sees down it", true, p.sees(6, 4, 4, 4));
    }

    /** The place between is the nearer one, of two as near ones the one that is greater. */
    private static void sightBetweenPlaces() {
        between(0, 0, 2, 1, 1, 1);
        between(2, 1, 0, 0, 1, 1);
        between(0, 2, 3, 0, 1, 1);
        between(0, 2, 3, 0, 2, 1);
        between(3, 0, 0, 2, 2, 1);
        between(3, 0, 0, 2, 1, 1);
        between(9, 9, 5, 8, 7, 9);
        between(9, 9, 5, 8, 6, 8);
        between(5, 9, 6, 5, 6, 7);
        between(5, 9, 6, 5, 5, 8);
    }

    /** The sight of a to b goes over the place (x, y), and over none that is above or below it. */
    private static void between(int ax, int ay, int bx, int by, int x, int y) {
        RoverPlanner p = new RoverPlanner();
        p.raise(x, x, y, y, 9);
        String call = "sees " + ax + " " + ay + " " + bx + " " + by + " past " + x + " " + y;
        Due.is(call, false, p.sees(ax, ay, bx, by));
        RoverPlanner q = new RoverPlanner();
        boolean isWide = Math.abs(bx - ax) > Math.abs(by - ay);
        for (int aside = -1; aside <= 1; aside += 2) {
            int u = isWide ? x : x + aside;
            int v = isWide ? y + aside : y;
            if (v >= 0 && u >= 0) {
                q.raise(u, u, v, v, 9);
            }
        }
        Due.is(call + ", beside it", true, q.sees(ax, ay, bx, by));
    }
}
