/** Promises 26 to 31: nearest places, plans that the planner makes, marks, and the checksum. */
public final class MakingTest {
    public static void main(String[] args) {
        nearestPlaces();
        nearestOfSeveral();
        nearestTouch();
        nearestWrong();
        madeWhole();
        madeByWorth();
        madeWithinMinutes();
        madeBehindThePlan();
        madePastWhatFails();
        madeWrong();
        marked();
        markedPieces();
        markedWrong();
        backWithLess();
        sentShare();
        digests();
        Due.end("MakingTest");
    }

    /** The plan from a place on: three numbers an activity. */
    private static void plan(String when, RoverPlanner p, int... due) {
        Due.is(when + ": count", due.length / 3, p.count(2));
        for (int i = 0; i < due.length && i / 3 < p.count(2); i++) {
            Due.is(when + ": activity " + i / 3 + " " + i % 3, due[i], p.activity(i / 3, i % 3));
        }
    }

    private static void nearestPlaces() {
        RoverPlanner p = new RoverPlanner();
        p.addTarget(10, 0, 1, 1);
        p.addTarget(10, 10, 1, 1);
        p.addTarget(3, 3, 1, 1);
        p.addTarget(23, 23, 1, 2);
        Due.is("nearest at a distance of 6", 400, p.nearest(0));
        Due.is("nearest of a diagonal", 404, p.nearest(1));
        Due.is("nearest is where the rover is", 0, p.nearest(2));
        Due.is("nearest far away", 1717, p.nearest(3));
        Acts.one(p, 0, 3, 1);
        Due.is("nearest from elsewhere", 401, p.nearest(0));
        Due.is("nearest of a diagonal from elsewhere", 404, p.nearest(1));
        p.raise(7, 7, 0, 3, 99);
        // what is not seen from the side of the rover is seen from behind the wall, or past its end
        Due.is("the wall hides the nearest place", false, p.sees(4, 0, 10, 0));
        Due.is("nearest past a wall", 704, p.nearest(0));
        RoverPlanner far = new RoverPlanner();
        far.addTarget(2, 0, 1, 1);
        far.addTarget(12, 2, 1, 1);
        far.addTarget(1, 1, 1, 4);
        Acts.one(far, 0, 12, 12);
        Due.is("nearest from the other side", 806, far.nearest(0));
        Due.is("nearest from below", 1208, far.nearest(1));
        Due.is("nearest to touch from the other side", 202, far.nearest(2));
        RoverPlanner q = new RoverPlanner();
        q.addTarget(8, 0, 1, 1);
        q.pave(2, 2, 0, 23, 0, true);
        Due.is("nearest behind hazards", -1, q.nearest(0));
        q.pave(2, 2, 0, 23, 3, false);
        Due.is("nearest on rough ground", 200, q.nearest(0));
        // by the minutes of the way, not by the steps
        q.pave(2, 2, 0, 0, 0, true);
        Due.is("nearest beside a hazard", 201, q.nearest(0));
    }

    private static void nearestOfSeveral() {
        RoverPlanner p = new RoverPlanner();
        p.addTarget(5, 5, 1, 2);
        p.addTarget(5, 5, 1, 1);
        p.addPass(0, 1440, 20);
        Acts.one(p, 0, 5, 5);
        Due.is("nearest is here", 505, p.nearest(0));
        Acts.one(p, 1, 0, 1);
        Due.is("the smallest y of several", 504, p.nearest(0));
        Due.is("images of another target do not count", 505, p.nearest(1));
        p.pave(5, 5, 4, 4, 0, true);
        Due.is("the smallest x of several", 405, p.nearest(0));
        p.pave(4, 4, 5, 5, 0, true);
        Due.is("the other x", 605, p.nearest(0));
        Acts.one(p, 3, 2, 0);
        Due.is("an octant that was sent is not needed, too", 605, p.nearest(0));
        Acts.one(p, 0, 6, 5);
        Acts.one(p, 1, 0, 1);
        Due.is("it needs nothing more", -1, p.nearest(0));
        RoverPlanner q = new RoverPlanner();
        q.addTarget(0, 0, 1, 3);
        Acts.one(q, 1, 0, 1);
        Due.is("the second", 100, q.nearest(0));
        Acts.one(q, 0, 1, 0);
        Acts.one(q, 1, 0, 1);
        Due.is("the third: of three places with 4 minutes", 101, q.nearest(0));
        Acts.one(q, 0, 1, 1);
        Acts.one(q, 1, 0, 1);
        Due.is("no more", -1, q.nearest(0));
    }

    private static void nearestTouch() {
        RoverPlanner p = new RoverPlanner();
        p.addTarget(3, 3, 1, 4);
        Due.is("nearest to touch", 202, p.nearest(0));
        p.pave(2, 2, 2, 2, 0, true);
        Due.is("nearest of several to touch", 302, p.nearest(0));
        p.pave(2, 4, 2, 4, 0, true);
        p.pave(3, 3, 3, 3, 0, false);
        Due.is("there is none to touch", -1, p.nearest(0));
        RoverPlanner q = new RoverPlanner();
        q.addTarget(1, 1, 1, 4);
        q.pave(0, 23, 0, 23, 0, true);
        Due.is("the rover stands in a hazard", 0, q.nearest(0));
        Acts.one(q, 6, 1, 0);
        Acts.one(q, 1, 0, 1);
        Due.is("an image is no touch", 0, q.nearest(0));
        Acts.one(q, 2, 0, 1);
        Due.is("it is touched", -1, q.nearest(0));
        RoverPlanner r = new RoverPlanner();
        r.addTarget(3, 0, 1, 4);
        // a step of 99 less 3 is not seen over, but a touch needs no sight
        r.setSlope(99);
        r.raise(3, 3, 0, 0, 99);
        Due.is("a touch needs no sight", 200, r.nearest(0));
    }

    private static void nearestWrong() {
        RoverPlanner p = new RoverPlanner();
        Due.outside("nearest without targets", () -> p.nearest(0));
        p.addTarget(0, 0, 1, 1);
        for (int target : new int[] {-1, 1, 12, Integer.MIN_VALUE, Integer.MAX_VALUE}) {
            Due.outside("nearest " + target, () -> p.nearest(target));
        }
    }

    private static void madeWhole() {
        RoverPlanner p = new RoverPlanner();
        Due.is("make without targets", 0, p.make(2880));
        p.addTarget(0, 0, 9, 3);
        p.addTarget(4, 0, 1, 4);
        Due.is("make", 8, p.make(600));
        plan("made", p, 0, 0, 0, 1, 0, 5, 0, 1, 0, 1, 0, 5, 0, 1, 1, 1, 0, 5, 0, 3, 1, 2, 1, 5);
        Due.is("make changes no time", 0, p.rover(0));
        Due.is("nor keeps pieces", 0, p.rover(8));
        Due.is("the plan can be done", -1, p.check());
        Due.is("nothing more is to be made", 0, p.make(600));
        Due.is("it is done", 8, p.run(40));
        Due.is("its pieces", 4, p.rover(8));
        Due.is("their octants", 3, p.target(0, 3));
        Due.is("nothing is needed", 0, p.make(600));
        p.addTarget(4, 1, 1, 1);
        Due.is("a new target", 2, p.make(600));
        plan("made for it", p, 0, 3, 1, 1, 2, 5);
    }

    private static void madeByWorth() {
        RoverPlanner p = new RoverPlanner();
        p.addTarget(8, 0, 10, 1);
        p.addTarget(0, 20, 60, 1);
        Due.is("make: near, though of a smaller value", 4, p.make(600));
        plan("near first", p, 0, 2, 0, 1, 0, 5, 0, 2, 14, 1, 1, 5);
        RoverPlanner q = new RoverPlanner();
        q.addTarget(8, 0, 10, 1);
        q.addTarget(0, 20, 64, 1);
        Due.is("make: valuable, though far away", 4, q.make(600));
        plan("valuable first", q, 0, 0, 14, 1, 1, 5, 0, 2, 6, 1, 0, 5);
        RoverPlanner r = new RoverPlanner();
        r.addTarget(23, 23, 1, 1);
        r.addTarget(23, 22, 1, 1);
        // 1000 / 103 and 1000 / 101 are 9
        Due.is("make: the smallest number of several", 4, r.make(600));
        plan("smallest first", r, 0, 17, 17, 1, 0, 5, 0, 17, 17, 1, 1, 5);
        RoverPlanner t = new RoverPlanner();
        t.addTarget(22, 21, 1, 1);
        t.addTarget(21, 21, 1, 1);
        // 1000 / 95 and 1000 / 91 are 10
        t.make(600);
        plan("smallest first again", t, 0, 16, 15, 1, 0, 5, 0, 16, 15, 1, 1, 5);
        RoverPlanner u = new RoverPlanner();
        u.addTarget(7, 0, 40, 1);
        u.addTarget(0, 0, 10, 1);
        // 40000 / 5 and 10000 / 1
        u.make(600);
        plan("what is here first", u, 0, 0, 0, 1, 1, 5, 0, 1, 0, 1, 0, 5);
        RoverPlanner s = new RoverPlanner();
        s.addTarget(0, 0, 1, 1);
        s.addTarget(0, 0, 2, 1);
        s.addTarget(0, 0, 2, 1);
        s.make(600);
        plan("by the values", s, 0, 0, 0, 1, 1, 5, 0, 0, 0, 1, 2, 5, 0, 0, 0, 1, 0, 5);
    }

    private static void madeWithinMinutes() {
        RoverPlanner p = new RoverPlanner();
        p.addTarget(8, 0, 1, 1);
        Due.is("make 13", 0, p.make(13));
        Due.is("make 14", 2, p.make(14));
        RoverPlanner q = new RoverPlanner();
        q.addTarget(0, 23, 100, 1);
        q.addTarget(2, 0, 1, 2);
        Due.is("make past a target that is too far", 4, q.make(16));
        plan("without the far one", q, 0, 0, 0, 1, 1, 5, 0, 0, 1, 1, 1, 5);
        RoverPlanner r = new RoverPlanner();
        r.addTarget(0, 0, 1, 3);
        // 6, and 4 and 6, and 4 and 6 minutes
        Due.is("make 15", 2, r.make(15));
        r.remove(0);
        r.remove(0);
        Due.is("make 16", 4, r.make(16));
        while (r.count(2) > 0) {
            r.remove(0);
        }
        Due.is("make 26", 6, r.make(26));
    }

    private static void madeBehindThePlan() {
        RoverPlanner p = new RoverPlanner();
        p.addTarget(8, 0, 1, 1);
        p.put(0, 0, 6, 6);
        p.put(1, 4, 600, 0);
        Due.is("make behind a plan of many minutes", 2, p.make(6));
        plan("behind", p, 0, 6, 6, 4, 600, 0, 0, 6, 6, 1, 0, 5);
        RoverPlanner q = new RoverPlanner();
        q.addTarget(0, 0, 1, 1);
        q.put(0, 3, 1, 0);
        q.put(1, 6, 1, 0);
        Due.is("make behind a plan that fails", 0, q.make(600));
        Due.is("the plan is as it was", 2, q.count(2));
        q.remove(0);
        for (int i = 1; i < 39; i++) {
            q.put(0, 6, 1, 0);
        }
        Due.is("39 activities", 39, q.count(2));
        Due.is("no room for two", 0, q.make(600));
        q.remove(0);
        Due.is("room for two", 2, q.make(600));
        Due.is("40 activities", 40, q.count(2));
        Due.is("the last one", 1, q.activity(39, 0));
        RoverPlanner r = new RoverPlanner();
        for (int i = 0; i < 12; i++) {
            r.addTarget(1, 1, 1, 3);
        }
        r.put(0, 6, 1, 0);
        Due.is("make up to 39", 38, r.make(2880));
        Due.is("39 by make", 39, r.count(2));
        // the image in the plan is what the target needs no more
        RoverPlanner s = new RoverPlanner();
        s.addTarget(0, 0, 1, 1);
        s.addTarget(0, 1, 1, 2);
        s.put(0, 1, 0, 1);
        s.put(1, 1, 1, 1);
        Due.is("make beside what is planned", 2, s.make(600));
        Due.is("another octant", 100, 100 * s.activity(2, 1) + s.activity(2, 2));
    }

    private static void madePastWhatFails() {
        RoverPlanner p = new RoverPlanner();
        p.addTarget(0, 0, 100, 4);
        p.addTarget(0, 0, 1, 2);
        p.setRover(4000, 80);
        Due.is("make where a touch has no room", 4, p.make(600));
        plan("images only", p, 0, 0, 0, 1, 1, 5, 0, 1, 0, 1, 1, 5);
        RoverPlanner q = new RoverPlanner();
        q.addTarget(10, 0, 1, 1);
        q.addTarget(6, 0, 1, 1);
        q.setRover(100, 800);
        // 96 for the way, 30 for the image
        Due.is("make with a small battery", 2, q.make(600));
        plan("without a way", q, 0, 0, 0, 1, 1, 5);
        RoverPlanner r = new RoverPlanner();
        r.addTarget(0, 0, 1, 1);
        Acts.one(r, 5, 30, 0);
        Due.is("make when it is too cold", 0, r.make(600));
        RoverPlanner s = new RoverPlanner();
        s.pave(3, 3, 0, 23, 0, true);
        s.addTarget(20, 0, 100, 1);
        s.addTarget(0, 0, 1, 1);
        Due.is("make where a target is not reached", 2, s.make(600));
    }

    private static void madeWrong() {
        RoverPlanner p = new RoverPlanner();
        p.addTarget(0, 0, 1, 1);
        for (int n : new int[] {0, -1, 2881, Integer.MIN_VALUE, Integer.MAX_VALUE}) {
            Due.argument("make " + n, () -> p.make(n));
        }
        Due.is("make 1", 0, p.make(1));
        Due.is("make 2880", 2, p.make(2880));
    }

    private static void marked() {
        RoverPlanner p = new RoverPlanner();
        p.addTarget(0, 0, 5, 1);
        p.addPass(0, 1440, 20);
        p.put(0, 1, 0, 3);
        p.put(1, 6, 1, 0);
        Due.is("mark", 0, p.mark());
        p.run(40);
        p.put(0, 3, 1, 0);
        p.put(1, 3, 1, 0);
        Due.is("mark again", 1, p.mark());
        p.run(1);
        Due.is("a third mark", 2, p.mark());
        p.run(1);
        Acts.one(p, 5, 0, 0);
        p.raise(0, 0, 0, 0, 4);
        p.addTarget(3, 3, 1, 1);
        p.addPass(0, 1, 1);
        p.setSlope(3);
        Due.is("score", 5, p.score());
        Due.is("back", 7, p.back(2));
        Due.is("what is left", 20, p.piece(0, 1));
        Due.is("units sent", 20, p.rover(9));
        Due.is("sent", 0.5, p.sent());
        Due.is("score then", 0, p.score());
        Due.is("clearness", 100, p.rover(6));
        Due.is("the plan", 1, p.count(2));
        Due.is("ground stays", 4, p.ground(0, 0, 0));
        Due.is("targets stay", 2, p.count(0));
        Due.is("passes stay", 2, p.count(1));
        Due.is("slopes stay", 3, p.setSlope(3));
        Due.is("marks", 3, p.count(3));
        Due.is("back to the same mark", 7, p.back(2));
        Due.is("back to the first", 0, p.back(0));
        Due.is("marks then", 1, p.count(3));
        plan("the plan of the first", p, 1, 0, 3, 6, 1, 0);
        int[] rover = {0, 0, 0, 3000, -20, 0, 100, 0, 0, 0};
        for (int what = 0; what <= 9; what++) {
            Due.is("rover then " + what, rover[what], p.rover(what));
        }
        Due.is("sent then", 1.0, p.sent());
        Due.outside("a mark that is gone", () -> p.back(1));
        Due.is("a new mark takes its number", 1, p.mark());
        Acts.one(p, 4, 9, 0);
        Due.is("back to it", 0, p.back(1));
        // a mark is not changed by what comes behind it
        p.run(40);
        p.back(1);
        Due.is("still the same", 0, p.rover(0));
        plan("still the same plan", p, 1, 0, 3, 6, 1, 0);
    }

    private static void markedPieces() {
        RoverPlanner p = new RoverPlanner();
        p.addTarget(0, 0, 1, 1);
        p.addTarget(1, 0, 1, 2);
        p.addTarget(0, 1, 1, 4);
        p.addPass(0, 1440, 20);
        Acts.one(p, 1, 0, 3);
        Acts.one(p, 1, 1, 4);
        Acts.one(p, 2, 2, 2);
        p.mark();
        long digest = p.digest();
        Acts.one(p, 3, 600, 0);
        Acts.one(p, 1, 1, 9);
        Acts.one(p, 1, 0, 8);
        Acts.one(p, 1, 1, 7);
        Acts.one(p, 1, 1, 6);
        p.back(0);
        int[] due = {0, 40, 3, 8, 1, 40, 4, 4, 2, 90, 2, 9};
        for (int i = 0; i < due.length; i++) {
            Due.is("piece " + i / 4 + " " + i % 4 + " at the mark", due[i], p.piece(i / 4, i % 4));
        }
        Due.is("nothing was sent at the mark", 0, p.target(0, 5) + p.target(0, 2) + p.target(2, 4));
        Due.is("digest at the mark", digest, p.digest());
    }

    private static void markedWrong() {
        RoverPlanner p = new RoverPlanner();
        Due.outside("back without marks", () -> p.back(0));
        for (int i = 0; i < 8; i++) {
            Due.is("mark " + i, i, p.mark());
        }
        Due.state("a ninth mark", p::mark);
        Due.is("marks", 8, p.count(3));
        for (int mark : new int[] {-1, 8, Integer.MIN_VALUE, Integer.MAX_VALUE}) {
            Due.outside("back " + mark, () -> p.back(mark));
        }
        Due.is("back to the last", 0, p.back(7));
        Due.is("marks then", 8, p.count(3));
        p.back(3);
        Due.is("marks behind back", 4, p.count(3));
        Due.is("and one more", 4, p.mark());
    }

    private static void backWithLess() {
        RoverPlanner p = new RoverPlanner();
        p.addTarget(0, 0, 1, 1);
        p.addPass(0, 1440, 20);
        Acts.one(p, 1, 0, 1);
        Acts.one(p, 1, 0, 1);
        Acts.one(p, 1, 0, 1);
        p.mark();
        Acts.one(p, 3, 4, 0);
        Due.is("setRover", 4000, p.setRover(200, 80));
        p.back(0);
        Due.is("a battery that is fuller is emptied", 200, p.rover(3));
        Due.is("capacity stays", 200, p.setRover(200, 120));
        p.back(0);
        Acts.one(p, 3, 4, 0);
        p.setRover(200, 80);
        p.back(0);
        Due.is("more data than memory", 120, p.rover(7));
        p.put(0, 1, 0, 1);
        Due.is("nothing new is kept", 4, p.reason());
        Due.state("setRover with less than the data", () -> p.setRover(200, 119));
        p.remove(0);
        Acts.one(p, 3, 3, 0);
        p.put(0, 1, 0, 1);
        Due.is("still no room", 4, p.reason());
        p.remove(0);
        Acts.one(p, 3, 1, 0);
        p.put(0, 1, 0, 1);
        Due.is("there is room", 0, p.reason());
        RoverPlanner q = new RoverPlanner();
        q.mark();
        Acts.one(q, 5, 100, 0);
        q.setRover(20000, 800);
        q.back(0);
        Due.is("a greater capacity does not fill the battery", 3000, q.rover(3));
    }

    private static void sentShare() {
        RoverPlanner p = new RoverPlanner();
        p.addTarget(0, 0, 1, 1);
        p.addTarget(0, 0, 1, 4);
        p.addPass(0, 1440, 13);
        Due.is("sent of nothing", 1.0, p.sent());
        Acts.one(p, 6, 1, 0);
        Acts.one(p, 1, 0, 9);
        Due.is("sent of what is kept", 0.0, p.sent());
        Acts.one(p, 3, 1, 0);
        Due.is("sent in part", 13.0 / 40.0, p.sent());
        Acts.one(p, 2, 1, 1);
        Due.is("sent of both", 13.0 / 130.0, p.sent());
        Acts.one(p, 3, 3, 0);
        Due.is("one sent as a whole", 52.0 / 130.0, p.sent());
        Acts.one(p, 3, 600, 0);
        Due.is("all sent", 1.0, p.sent());
        Acts.one(p, 1, 0, 9);
        Due.is("and one more", 130.0 / 170.0, p.sent());
    }

    /** The checksum, from what the other calls tell. */
    private static long sum(RoverPlanner p) {
        long d = 337;
        for (int what = 0; what < 10; what++) {
            d = d * 31 + p.rover(what);
        }
        for (int i = 0; i < p.rover(8) * 4; i++) {
            d = d * 31 + p.piece(i / 4, i % 4);
        }
        for (int i = 0; i < p.count(0) * 6; i++) {
            d = d * 31 + p.target(i / 6, i % 6);
        }
        for (int i = 0; i < p.count(2) * 3; i++) {
            d = d * 31 + p.activity(i / 3, i % 3);
        }
        for (int what = 0; what < 4; what++) {
            d = d * 31 + p.count(what);
        }
        return d * 31 + p.score();
    }

    private static void digests() {
        RoverPlanner p = new RoverPlanner();
        Due.is("digest of a new object", sum(p), p.digest());
        p.addTarget(1, 0, 33, 1);
        Due.is("digest with a target", sum(p), p.digest());
        p.addTarget(0, 0, 21, 4);
        p.addPass(0, 1440, 11);
        p.put(0, 6, 1, 0);
        p.put(1, 1, 0, 7);
        p.put(2, 2, 1, 8);
        p.put(3, 0, 2, 3);
        p.put(4, 3, 9, 0);
        Due.is("digest with a plan", sum(p), p.digest());
        p.run(4);
        Due.is("digest with pieces", sum(p), p.digest());
        p.mark();
        p.run(4);
        p.put(0, 1, 0, 7);
        p.put(0, 6, 1, 0);
        p.run(2);
        Due.is("digest with what was sent", sum(p), p.digest());
        Due.is("score", 21, p.score());
        p.back(0);
        Due.is("digest at the mark", sum(p), p.digest());
        RoverPlanner q = new RoverPlanner();
        long digest = q.digest();
        q.raise(0, 3, 0, 3, 1);
        q.setSlope(3);
        Due.is("the ground is not in the digest", digest, q.digest());
        Due.is("digest changes nothing", digest, q.digest());
    }
}
