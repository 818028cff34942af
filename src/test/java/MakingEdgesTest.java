import java.math.BigInteger;

/** The boundary cases of promises 26 to 31, sentence by sentence. */
public final class MakingEdgesTest implements Kinds {
    public static void main(String[] args) {
        makeLimits();
        makeForMinutes();
        makeBehindThePlan();
        makeForWhatIsNeeded();
        makeByWorth();
        makePastWhatFails();
        makeWithRoom();
        makeToTheEndOfTime();
        nearestAsked();
        nearestInReach();
        nearestOfSeveral();
        nearestOfNone();
        mostMarks();
        backAsked();
        backAsItWas();
        backWithLessCapacity();
        backWithLessMemory();
        sentOfNone();
        digestWraps();
        digestOfAll();
        digestOfAPlan();
        Edge.end("MakingEdgesTest", 26, 31);
    }

    private static RoverPlanner withTarget(int x, int y, int value, int need) {
        RoverPlanner p = new RoverPlanner();
        p.addTarget(x, y, value, need);
        return p;
    }

    // ---- promise 26

    private static void makeLimits() {
        Edge.of(26, "if n is not 1 to 2880");
        RoverPlanner p = withTarget(0, 0, 1, 1);
        Due.argument("0", () -> p.make(0));
        Due.argument("-1", () -> p.make(-1));
        Due.argument("2881", () -> p.make(2881));
        for (int far : Edge.FAR) {
            Due.argument("" + far, () -> p.make(far));
        }
        p.put(0, SEND, 1, 0);
        Due.argument("0, where the plan fails", () -> p.make(0));
        Due.argument("2881, where the plan fails", () -> p.make(2881));
        p.remove(0);
        Due.is("1", 0, p.make(1));
        Due.is("2880", 2, p.make(2880));
        Due.is("what is made", "0 0 0, 1 0 5, ", Edge.plan(p));
    }

    private static void makeForMinutes() {
        Edge.of(26, "puts activities behind the plan, as long as it can, for at most n minutes");
        RoverPlanner here = withTarget(0, 0, 1, 1);
        Due.is("an image of 6 minutes in 5", 0, here.make(5));
        Due.is("an image of 6 minutes in 6", 2, here.make(6));
        RoverPlanner touch = withTarget(1, 1, 1, 4);
        Due.is("a touch of 25 minutes in 24", 0, touch.make(24));
        Due.is("a touch of 25 minutes in 25", 2, touch.make(25));
        RoverPlanner way = withTarget(8, 0, 1, 1);
        Due.is("8 minutes of a way, and 6, in 13", 0, way.make(13));
        Due.is("8 minutes of a way, and 6, in 14", 2, way.make(14));
        // 6, then 4 and 6, then 4 and 6
        int[][] due = {{6, 2}, {15, 2}, {16, 4}, {25, 4}, {26, 6}, {2880, 6}};
        for (int[] d : due) {
            Due.is("three images in " + d[0], d[1], withTarget(0, 0, 1, 3).make(d[0]));
        }
        Edge.of(26, "(A DRIVE that stays where it is is put into the plan, too.)");
        RoverPlanner two = withTarget(3, 3, 1, 1);
        two.addTarget(3, 3, 1, 4);
        Edge.act(two, DRIVE, 3, 3);
        two.make(2880);
        Due.is("both from here", "0 3 3, 1 0 5, 0 3 3, 2 1 5, ", Edge.plan(two));
    }

    private static void makeBehindThePlan() {
        Edge.of(26, "on a copy, behind the whole plan (nothing is done, if that fails somewhere)");
        RoverPlanner p = withTarget(20, 0, 1, 1);
        p.put(0, DRIVE, 14, 0);
        Due.is("behind a DRIVE, for 6 minutes", 2, p.make(6));
        Due.is("from where the plan ends", "0 14 0, 0 14 0, 1 0 5, ", Edge.plan(p));
        Due.is("on a copy", "0 0 0 3000 -20 0 100 0 0 0", Edge.rover(p));
        RoverPlanner q = withTarget(0, 0, 1, 1);
        q.put(0, HEAT, 1, 0);
        q.put(1, SEND, 1, 0);
        Due.is("the last one fails", 0, q.make(2880));
        q.move(1, 0);
        Due.is("the first one fails", 0, q.make(2880));
        Due.is("nothing is put", "3 1 0, 6 1 0, ", Edge.plan(q));
        q.remove(0);
        Due.is("none fails", 2, q.make(2880));
        RoverPlanner r = withTarget(0, 0, 1, 1);
        r.put(0, IMAGE, 0, 1);
        Due.is("what the plan takes is not needed", 0, r.make(2880));
        Due.is("the plan is as it was", "1 0 1, ", Edge.plan(r));
        Edge.of(26, "Returns how many activities were put behind the plan.");
        Due.is("without targets", 0, new RoverPlanner().make(2880));
        RoverPlanner s = withTarget(0, 0, 1, 2);
        s.put(0, HEAT, 1, 0);
        Due.is("4 behind one", 4, s.make(2880));
        Due.is("5 together", 5, s.count(2));
        Due.is("0 once more", 0, s.make(2880));
    }

    private static void makeForWhatIsNeeded() {
        Edge.of(26, "For each target whose need is not met by the pieces that there are (kept or sent)");
        RoverPlanner p = withTarget(0, 0, 1, 1);
        p.addPass(0, 1440, 20);
        p.mark();
        Edge.act(p, IMAGE, 0, 1);
        Due.is("met by what is kept", 0, p.make(2880));
        Edge.act(p, SEND, 1, 0);
        Due.is("met by what is sent in part", 0, p.make(2880));
        Edge.act(p, SEND, 1, 0);
        Due.is("met by what is sent", 0, p.make(2880));
        p.back(0);
        Due.is("met no more", 2, p.make(2880));
        RoverPlanner q = withTarget(0, 0, 1, 2);
        q.addPass(0, 1440, 20);
        Edge.act(q, IMAGE, 0, 1);
        Edge.act(q, SEND, 2, 0);
        Edge.act(q, DRIVE, 1, 0);
        q.make(2880);
        Due.is("one is sent, one is needed", "0 1 0, 1 0 5, ", Edge.plan(q));
        q.run(40);
        Due.is("one is sent, one is kept", 0, q.make(2880));
        Edge.of(26, "(It needs next a touch, from a distance of at most 1; or an image");
        RoverPlanner r = withTarget(0, 0, 1, 4);
        Edge.act(r, HEAT, 1, 0);
        Edge.act(r, IMAGE, 0, 1);
        r.make(2880);
        Due.is("an image is no touch", "0 0 0, 2 0 5, ", Edge.plan(r));
        RoverPlanner s = withTarget(0, 0, 1, 1);
        Edge.act(s, TOUCH, 0, 1);
        s.make(2880);
        Due.is("a touch is no image", "0 0 0, 1 0 5, ", Edge.plan(s));
    }

    private static void makeByWorth() {
        Edge.of(26, "Of all these targets the one is chosen for which 1000 * value / (1 + the minutes of the way to its nearest place) is greatest, of several the one with the smallest number");
        RoverPlanner p = withTarget(0, 0, 7, 1);
        p.addTarget(0, 0, 8, 1);
        p.addTarget(0, 0, 8, 1);
        p.make(2880);
        Due.is("by the values", "0 0 0, 1 1 5, 0 0 0, 1 2 5, 0 0 0, 1 0 5, ", Edge.plan(p));
        // 4 minutes: 5000 / 5 and 1000 / 1 are as great
        RoverPlanner q = withTarget(7, 0, 5, 1);
        q.addTarget(0, 0, 1, 1);
        q.make(2880);
        Due.is("as great: the first one", "0 1 0, 1 0 5, 0 1 0, 1 1 5, ", Edge.plan(q));
        RoverPlanner r = withTarget(0, 0, 1, 1);
        r.addTarget(7, 0, 5, 1);
        r.make(2880);
        Due.is("as great: the first one, which is here", "0 0 0, 1 0 5, 0 1 0, 1 1 5, ", Edge.plan(r));
        RoverPlanner s = withTarget(0, 0, 1, 1);
        s.addTarget(7, 0, 6, 1);
        s.make(2880);
        Due.is("greater, though 4 minutes away", "0 1 0, 1 1 5, 0 1 0, 1 0 5, ", Edge.plan(s));
        // 160 minutes: 20000 / 161 is 124; 15 minutes: 2000 / 16 is 125
        RoverPlanner t = new RoverPlanner();
        t.pave(0, 23, 0, 23, 3, false);
        t.addTarget(13, 9, 20, 4);
        t.addTarget(2, 2, 2, 4);
        t.make(2880);
        Due.is("125 ahead of 124", "0 1 1, 2 1 5, 0 12 8, 2 0 5, ", Edge.plan(t));
        RoverPlanner u = new RoverPlanner();
        u.pave(0, 23, 0, 23, 3, false);
        // 15 minutes: 31 * 1000 / 16 is 1937; 0 minutes: 1000
        u.addTarget(0, 0, 1, 4);
        u.addTarget(2, 2, 31, 4);
        u.make(2880);
        Due.is("1937 ahead of 1000", "0 1 1, 2 1 5, 0 1 1, 2 0 5, ", Edge.plan(u));
        Edge.of(26, "A target without such a place is left aside.");
        RoverPlanner v = withTarget(20, 20, 100, 1);
        v.pave(10, 10, 0, 23, 0, true);
        v.addTarget(0, 0, 1, 1);
        v.make(2880);
        Due.is("without the one behind hazards", "0 0 0, 1 1 5, ", Edge.plan(v));
    }

    private static void makePastWhatFails() {
        Edge.of(26, "if one of them fails, or more than n minutes have gone by, both are not put behind the plan, and the target is not looked at any more by this make(n)");
        RoverPlanner p = new RoverPlanner();
        p.setRover(4000, 89);
        p.addTarget(0, 0, 100, 4);
        p.addTarget(0, 0, 90, 4);
        p.addTarget(0, 0, 80, 4);
        p.addTarget(0, 0, 1, 2);
        Due.is("three touches without room", 4, p.make(2880));
        Due.is("the images only", "0 0 0, 1 3 5, 0 1 0, 1 3 5, ", Edge.plan(p));
        RoverPlanner q = withTarget(16, 0, 100, 1);
        q.addTarget(0, 16, 99, 1);
        q.addTarget(7, 0, 1, 1);
        // 40 minutes of a way for the first two ones
        Due.is("two that are too far for 10 minutes", 2, q.make(10));
        Due.is("the near one", "0 1 0, 1 2 5, ", Edge.plan(q));
        Due.is("the next make looks at them again", 2, q.make(46));
        RoverPlanner r = withTarget(10, 0, 1, 1);
        r.setRover(100, 800);
        // 4 steps: 96 of 100, and then no image; the rover is not left there
        Due.is("DRIVE is done, IMAGE fails", 0, r.make(2880));
        r.addTarget(7, 0, 1, 1);
        Due.is("the one with a shorter way", 2, r.make(2880));
        Due.is("from where the plan ends", "0 1 0, 1 1 5, ", Edge.plan(r));
        RoverPlanner s = withTarget(0, 0, 1, 1);
        Edge.act(s, SLEEP, 15, 0);
        Due.is("too cold for an image", 0, s.make(2880));
        RoverPlanner t = withTarget(8, 0, 1, 1);
        Edge.act(t, SLEEP, 25, 0);
        Due.is("too cold for a step", 0, t.make(2880));
        Due.is("and the plan is empty", 0, t.count(2));
    }

    private static void makeWithRoom() {
        Edge.of(26, "It goes on until no target can be chosen any more, or the plan has no room for two activities.");
        for (int ahead = 36; ahead <= 40; ahead++) {
            RoverPlanner p = withTarget(0, 0, 1, 2);
            for (int i = 0; i < ahead; i++) {
                p.put(0, HEAT, 1, 0);
            }
            int due = ahead == 36 ? 4 : ahead <= 38 ? 2 : 0;
            Due.is("behind " + ahead, due, p.make(2880));
            Due.is("behind " + ahead + ": count", ahead + due, p.count(2));
        }
        RoverPlanner p = new RoverPlanner();
        p.setRover(20000, 5000);
        for (int i = 0; i < 12; i++) {
            p.addTarget(0, 0, 1, 2);
        }
        Due.is("24 images are needed, 20 have room", 40, p.make(2880));
        Due.is("the plan is full", 40, p.count(2));
        Due.is("and can be done", 40, p.run(40));
        Due.is("the last four", 8, p.make(2880));
    }

    private static void makeToTheEndOfTime() {
        Edge.of(26, "with the reason 7, if the time would be greater than 14400");
        RoverPlanner p = Edge.late(6);
        p.addTarget(0, 0, 1, 2);
        Due.is("6 minutes are left", 2, p.make(2880));
        RoverPlanner q = Edge.late(5);
        q.addTarget(0, 0, 1, 2);
        Due.is("5 minutes are left", 0, q.make(2880));
        RoverPlanner r = Edge.late(30);
        r.addTarget(1, 0, 100, 4);
        r.addTarget(0, 0, 1, 1);
        r.put(0, WAIT, 1416, 0);
        Due.is("24 minutes are left behind the plan", 2, r.make(2880));
        Due.is("no touch", "4 1416 0, 0 0 0, 1 1 5, ", Edge.plan(r));
    }

    // ---- promise 27

    private static void nearestAsked() {
        Edge.of(27, "if there is no such target");
        Due.outside("0 of none", () -> new RoverPlanner().nearest(0));
        RoverPlanner p = withTarget(0, 0, 1, 1);
        p.addTarget(23, 23, 1, 1);
        Due.outside("-1", () -> p.nearest(-1));
        Due.outside("2 of 2", () -> p.nearest(2));
        for (int far : Edge.FAR) {
            Due.outside("" + far, () -> p.nearest(far));
        }
        Edge.of(27, "Returns 100 times the x of its nearest place, as told above, from where the rover is, and its y");
        Due.is("the first place", 0, p.nearest(0));
        Due.is("an x and a y of two digits", 1717, p.nearest(1));
        Edge.act(p, DRIVE, 23, 23);
        Due.is("the last place", 2323, p.nearest(1));
        p.put(0, DRIVE, 0, 0);
        Due.is("the plan does not count", 2323, p.nearest(1));
    }

    private static void nearestInReach() {
        Edge.of(27, "from a place that sees it, at a distance of at most 6");
        Due.is("a distance of 6", 0, withTarget(6, 6, 1, 1).nearest(0));
        Due.is("a distance of 7", 100, withTarget(7, 6, 1, 1).nearest(0));
        Due.is("a distance of 7 in y", 1, withTarget(6, 7, 1, 1).nearest(0));
        Due.is("a distance of 7 in both", 101, withTarget(7, 7, 1, 1).nearest(0));
        RoverPlanner p = withTarget(2, 0, 1, 1);
        p.raise(1, 1, 0, 0, 2);
        Due.is("seen over 2", 0, p.nearest(0));
        p.raise(1, 1, 0, 0, 1);
        Due.is("not seen over 3, but past it", 1, p.nearest(0));
        Edge.of(27, "a touch, from a distance of at most 1");
        Due.is("touch: a distance of 1", 0, withTarget(1, 1, 1, 4).nearest(0));
        Due.is("touch: a distance of 2", 100, withTarget(2, 1, 1, 4).nearest(0));
        Due.is("touch: a distance of 2 in y", 1, withTarget(1, 2, 1, 4).nearest(0));
        RoverPlanner q = withTarget(3, 3, 1, 4);
        q.raise(3, 3, 3, 3, 99);
        Due.is("touch: no sight", 202, q.nearest(0));
        Edge.of(27, "from an octant of which there is no image of it");
        RoverPlanner r = withTarget(0, 0, 1, 3);
        r.addPass(0, 1440, 20);
        Edge.act(r, IMAGE, 0, 1);
        Due.is("the octant 8 is taken", 100, r.nearest(0));
        Edge.act(r, SEND, 2, 0);
        Due.is("the octant 8 is taken and sent", 100, r.nearest(0));
        Edge.act(r, DRIVE, 1, 0);
        Edge.act(r, IMAGE, 0, 1);
        Due.is("the octant 0, too", 101, r.nearest(0));
    }

    private static void nearestOfSeveral() {
        Edge.of(27, "the one to which the way takes the fewest minutes, of several the one with the smallest y, then the smallest x");
        RoverPlanner p = withTarget(10, 10, 1, 2);
        Edge.act(p, DRIVE, 10, 10);
        Edge.act(p, IMAGE, 0, 1);
        Due.is("of four", 1009, p.nearest(0));
        p.pave(10, 10, 9, 9, 1, false);
        Due.is("of three", 910, p.nearest(0));
        p.pave(9, 9, 10, 10, 1, false);
        Due.is("of two", 1110, p.nearest(0));
        p.pave(11, 11, 10, 10, 1, false);
        Due.is("the last one", 1011, p.nearest(0));
        // now all four take 6 minutes, as the ones that are aslant; 909 is the first one of all
        p.pave(10, 10, 11, 11, 1, false);
        Due.is("of eight", 909, p.nearest(0));
        RoverPlanner q = withTarget(10, 10, 1, 4);
        Edge.act(q, DRIVE, 10, 13);
        // 2 steps to (10, 11), as 8 minutes; aslant it takes 10
        Due.is("by the minutes, not by y and x", 1011, q.nearest(0));
        q.pave(10, 10, 11, 12, 3, false);
        Due.is("of two that take 10", 911, q.nearest(0));
        RoverPlanner r = withTarget(10, 0, 1, 1);
        r.pave(1, 4, 0, 0, 3, false);
        Due.is("18 minutes past rough ground, where (4, 0) takes 40", 401, r.nearest(0));
    }

    private static void nearestOfNone() {
        Edge.of(27, "-1 if it needs nothing more, or there is none");
        RoverPlanner p = withTarget(0, 0, 1, 1);
        p.addPass(0, 1440, 20);
        Edge.act(p, IMAGE, 0, 1);
        Due.is("met by what is kept", -1, p.nearest(0));
        Edge.act(p, SEND, 2, 0);
        Due.is("met by what was sent", -1, p.nearest(0));
        RoverPlanner q = withTarget(1, 1, 1, 4);
        Edge.act(q, TOUCH, 0, 1);
        Due.is("touched", -1, q.nearest(0));
        RoverPlanner r = withTarget(7, 0, 1, 1);
        r.addTarget(3, 3, 1, 4);
        r.pave(0, 23, 0, 23, 0, true);
        Due.is("no place but the rover's, which is too far", -1, r.nearest(0));
        Due.is("no place for a touch", -1, r.nearest(1));
        r.pave(1, 1, 0, 0, 0, false);
        Due.is("one place more, at a distance of 6", 100, r.nearest(0));
        r.pave(1, 1, 0, 0, 0, true);
        r.addTarget(6, 0, 1, 1);
        Due.is("the rover's place, a hazard", 0, r.nearest(2));
        RoverPlanner s = withTarget(5, 5, 1, 4);
        s.pave(4, 6, 4, 6, 0, true);
        Due.is("nine hazards", -1, s.nearest(0));
        s.pave(6, 6, 6, 6, 0, false);
        Due.is("one of nine", 606, s.nearest(0));
    }

    // ---- promise 28

    private static void mostMarks() {
        Edge.of(28, "Returns the number of this mark, from 0.");
        RoverPlanner p = new RoverPlanner();
        for (int i = 0; i < 8; i++) {
            Edge.act(p, WAIT, i + 1, 0);
            Due.is("number", i, p.mark());
        }
        Edge.of(28, "if there are 8 marks");
        Due.state("a ninth", p::mark);
        Due.state("a ninth again", p::mark);
        Due.is("count", 8, p.count(3));
        Due.is("the last one is as it was", 8, p.back(7));
        Due.state("a ninth behind the last one", p::mark);
        Due.is("back to the one ahead of it", 7, p.back(6));
        Due.is("one has room", 7, p.mark());
        Due.state("and no more", p::mark);
    }

    // ---- promise 29

    private static void backAsked() {
        Edge.of(29, "if there is no such mark");
        RoverPlanner p = new RoverPlanner();
        Due.outside("0 of none", () -> p.back(0));
        p.mark();
        p.mark();
        Due.outside("-1", () -> p.back(-1));
        Due.outside("2 of 2", () -> p.back(2));
        for (int far : Edge.FAR) {
            Due.outside("" + far, () -> p.back(far));
        }
        Due.is("count", 2, p.count(3));
        Edge.of(29, "The marks with greater numbers are gone.");
        Due.is("back to the last one", 0, p.back(1));
        Due.is("none is gone", 2, p.count(3));
        Due.is("back to the first one", 0, p.back(0));
        Due.is("one is left", 1, p.count(3));
        Due.outside("the other one is gone", () -> p.back(1));
        Due.is("the first one stays", 0, p.back(0));
        Edge.of(29, "Returns the time then.");
        Edge.act(p, WAIT, 77, 0);
        p.mark();
        Edge.act(p, WAIT, 99, 0);
        Due.is("time of the mark", 77, p.back(1));
    }

    private static void backAsItWas() {
        Edge.of(29, "Goes back to a mark: rover (with the clearness), data and plan are as they were.");
        RoverPlanner p = withTarget(1, 0, 9, 1);
        p.addPass(0, 1440, 20);
        Edge.act(p, HEAT, 1, 0);
        Edge.act(p, IMAGE, 0, 7);
        Edge.act(p, SEND, 1, 0);
        p.put(0, SEND, 1, 0);
        p.put(1, DRIVE, 2, 2);
        p.mark();
        String rover = Edge.rover(p);
        long digest = p.digest();
        p.run(40);
        Edge.act(p, HEAT, 0, 0);
        Edge.act(p, SLEEP, 0, 0);
        p.put(0, SEND, 9, 0);
        Due.is("done", 9, p.score());
        Due.is("sent", 1.0, p.sent());
        p.back(0);
        Due.is("rover", rover, Edge.rover(p));
        Due.is("pieces", "0 20 7 4, ", Edge.pieces(p));
        Due.is("plan", "3 1 0, 0 2 2, ", Edge.plan(p));
        Due.is("done no more", 0, p.score());
        Due.is("half is sent", 0.5, p.sent());
        Due.is("digest", digest, p.digest());
        Due.is("the mark is not used up", 2, p.run(40));
        p.back(0);
        Due.is("digest again", digest, p.digest());
        piecesAsTheyWere();
        RoverPlanner q = withTarget(0, 0, 9, 1);
        q.mark();
        for (int i = 0; i < 40; i++) {
            q.put(0, HEAT, 1, 0);
        }
        q.back(0);
        Due.is("an empty plan", 0, q.count(2));
        Edge.act(q, IMAGE, 0, 1);
        q.back(0);
        Due.is("no data", 0, q.rover(8));
        Due.is("sent of no data", 1.0, q.sent());
        q.raise(5, 5, 5, 5, 5);
        q.setSlope(7);
        q.addTarget(0, 0, 9, 1);
        q.addPass(0, 1, 1);
        q.back(0);
        Due.is("the ground stays", 5, q.ground(5, 5, 0));
        Due.is("the limit of slopes stays", 7, q.setSlope(7));
        Due.is("the targets stay", 2, q.count(0));
        Due.is("the passes stay", 1, q.count(1));
    }

    private static void piecesAsTheyWere() {
        RoverPlanner p = withTarget(1, 0, 9, 1);
        p.addTarget(0, 1, 9, 4);
        p.addTarget(0, 0, 9, 2);
        p.addPass(0, 1440, 20);
        Edge.act(p, HEAT, 1, 0);
        Edge.act(p, IMAGE, 0, 7);
        Edge.act(p, TOUCH, 1, 8);
        Edge.act(p, IMAGE, 2, 9);
        p.mark();
        Edge.act(p, SEND, 600, 0);
        Edge.act(p, IMAGE, 2, 1);
        Edge.act(p, IMAGE, 2, 2);
        Edge.act(p, IMAGE, 0, 3);
        Edge.act(p, TOUCH, 0, 4);
        Due.is("sent, and others kept", "2 40 1 8, 2 40 2 8, 0 40 3 4, 0 90 4 9, ", Edge.pieces(p));
        p.back(0);
        Due.is("kept again", "0 40 7 4, 1 90 8 9, 2 40 9 8, ", Edge.pieces(p));
        Due.is("and not sent", 0, p.target(0, 2) + p.target(1, 4) + p.target(2, 2));
    }

    private static void backWithLessCapacity() {
        Edge.of(29, "Capacity and memory stay as they are now: a battery that is fuller is emptied to the capacity");
        int[][] due = {{3001, 3000}, {3000, 3000}, {2999, 2999}, {100, 100}};
        for (int[] d : due) {
            RoverPlanner p = new RoverPlanner();
            p.mark();
            p.setRover(d[0], 40);
            p.back(0);
            Due.is("capacity " + d[0], d[1], p.rover(3));
            Due.is("capacity " + d[0] + ": it stays", d[0], p.setRover(20000, 40));
            p.back(0);
            Due.is("the mark itself keeps the battery", 3000, p.rover(3));
        }
        RoverPlanner q = withTarget(0, 0, 1, 1);
        q.mark();
        q.setRover(4000, 40);
        q.back(0);
        Edge.act(q, IMAGE, 0, 1);
        Due.is("the memory stays", 4, Edge.act(q, IMAGE, 0, 1));
    }

    private static void backWithLessMemory() {
        Edge.of(29, "if there are more data than memory, nothing new is kept until there is room");
        RoverPlanner p = withTarget(0, 0, 1, 1);
        p.addPass(0, 1440, 20);
        for (int i = 0; i < 3; i++) {
            Edge.act(p, IMAGE, 0, 1);
        }
        p.mark();
        Edge.act(p, SEND, 4, 0);
        p.setRover(4000, 79);
        Due.is("40 are left", 40, p.rover(7));
        p.back(0);
        Due.is("120 in a memory of 79", 120, p.rover(7));
        Due.is("all three pieces", 3, p.rover(8));
        Due.is("no image", 4, Edge.act(p, IMAGE, 0, 1));
        Due.is("no touch", 4, Edge.act(p, TOUCH, 0, 1));
        Due.is("it can be sent", 0, Edge.act(p, SEND, 3, 0));
        Due.is("60 in 79", 60, p.rover(7));
        Due.is("still no image", 4, Edge.act(p, IMAGE, 0, 1));
        Edge.act(p, SEND, 1, 0);
        Due.is("40 in 79", 4, Edge.act(p, IMAGE, 0, 1));
        Edge.act(p, SEND, 1, 0);
        Due.is("20 in 79", 0, Edge.act(p, IMAGE, 0, 1));
        p.back(0);
        Due.state("a memory that is too small for them", () -> p.setRover(4000, 119));
        Due.is("one that is not", 4000, p.setRover(4000, 120));
    }

    // ---- promise 30

    private static void sentOfNone() {
        Edge.of(30, "Returns the units that were sent, all together, divided by all that was kept or sent so far (sizes of pieces as they were at first); 1 if there were none.");
        RoverPlanner p = withTarget(0, 0, 1, 1);
        p.addPass(0, 1440, 1);
        Due.is("none", 1.0, p.sent());
        Edge.act(p, SEND, 600, 0);
        Due.is("none, behind SEND", 1.0, p.sent());
        Edge.act(p, IMAGE, 0, 1);
        Due.is("0 of 40", 0.0, p.sent());
        Edge.act(p, SEND, 1, 0);
        Due.is("1 of 40", 1.0 / 40, p.sent());
        Edge.act(p, TOUCH, 0, 1);
        Due.is("1 of 130", 1.0 / 130, p.sent());
        Edge.act(p, SEND, 38, 0);
        Due.is("39 of 130", 39.0 / 130, p.sent());
        Edge.act(p, SEND, 1, 0);
        Due.is("40 of 130", 40.0 / 130, p.sent());
        Edge.act(p, SEND, 89, 0);
        Due.is("129 of 130", 129.0 / 130, p.sent());
        Edge.act(p, SEND, 1, 0);
        Due.is("130 of 130", 1.0, p.sent());
        Edge.act(p, IMAGE, 0, 1);
        Due.is("130 of 170", 130.0 / 170, p.sent());
        p.put(0, IMAGE, 0, 1);
        p.check();
        Due.is("a plan that is checked keeps nothing", 130.0 / 170, p.sent());
    }

    // ---- promise 31

    /** The checksum as a whole number without a limit, and then cut to 64 bits. */
    private static BigInteger unlimited(RoverPlanner p) {
        BigInteger d = BigInteger.valueOf(337);
        for (int what = 0; what <= 9; what++) {
            d = next(d, p.rover(what));
        }
        for (int piece = 0; piece < p.rover(8); piece++) {
            for (int what = 0; what <= 3; what++) {
                d = next(d, p.piece(piece, what));
            }
        }
        for (int target = 0; target < p.count(0); target++) {
            for (int what = 0; what <= 5; what++) {
                d = next(d, p.target(target, what));
            }
        }
        for (int place = 0; place < p.count(2); place++) {
            for (int what = 0; what <= 2; what++) {
                d = next(d, p.activity(place, what));
            }
        }
        for (int what = 0; what <= 3; what++) {
            d = next(d, p.count(what));
        }
        return next(d, p.score());
    }

    private static BigInteger next(BigInteger d, int x) {
        return d.multiply(BigInteger.valueOf(31)).add(BigInteger.valueOf(x));
    }

    private static void digestWraps() {
        Edge.of(31, "d becomes d * 31 + x, which wraps around as a 64-bit integer");
        // 337 * 31 ^ 15 + 3000 * 31 ^ 11 - 20 * 31 ^ 10 + 100 * 31 ^ 8, of a new object
        BigInteger b = BigInteger.valueOf(31);
        BigInteger due = BigInteger.valueOf(337).multiply(b.pow(15)).add(BigInteger.valueOf(3000).multiply(b.pow(11)))
            .subtract(BigInteger.valueOf(20).multiply(b.pow(10))).add(BigInteger.valueOf(100).multiply(b.pow(8)));
        Due.is("it is too great for 64 bits", true, due.bitLength() > 64);
        Due.is("a new object", due.longValue(), new RoverPlanner().digest());
        int below = 0;
        int above = 0;
        RoverPlanner p = new RoverPlanner();
        for (int i = 1; i <= 9; i++) {
            p.put(0, WAIT, i, 0);
            BigInteger d = unlimited(p);
            Due.is("with a plan of " + i, d.longValue(), p.digest());
            below += p.digest() < 0 ? 1 : 0;
            above += p.digest() > 0 ? 1 : 0;
        }
        Due.is("some are less than 0, some greater", true, below > 0 && above > 0);
    }

    private static void digestOfAll() {
        Edge.of(31, "what rover() tells, in its order; for each piece what piece() tells, in its order; for each target what target() tells, in its order; for each activity what activity() tells, in its order; what count() tells, in its order; the score");
        RoverPlanner p = new RoverPlanner();
        for (int i = 0; i < 12; i++) {
            p.addTarget(i % 3, i % 2, 5 + i, 1 + i % 4);
        }
        for (int i = 0; i < 6; i++) {
            p.addPass(0, 1440, 15 + i);
        }
        Edge.act(p, HEAT, 1, 0);
        for (int i = 0; i < 12; i++) {
            Edge.act(p, i % 4 == 3 ? TOUCH : IMAGE, i, 1 + i % 9);
        }
        p.mark();
        Edge.act(p, SEND, 11, 0);
        Due.is("with data that were sent", unlimited(p).longValue(), p.digest());
        Due.is("and a score", true, p.score() > 0);
        p.back(0);
        Due.is("with data that are kept", unlimited(p).longValue(), p.digest());
    }

    private static void digestOfAPlan() {
        Edge.of(31, "for each activity what activity() tells, in its order; what count() tells, in its order; the score");
        RoverPlanner p = new RoverPlanner();
        for (int i = 0; i < 12; i++) {
            p.addTarget(i % 3, i % 2, 5 + i, 1 + i % 4);
        }
        for (int i = 0; i < 40; i++) {
            p.put(i, IMAGE, i % 12, 1 + i % 9);
        }
        for (int i = 0; i < 8; i++) {
            p.mark();
        }
        Due.is("with 40 activities and 8 marks", unlimited(p).longValue(), p.digest());
    }
}
