/** Promises 22 to 25: what activities do, minute by minute, and with what reasons they fail. */
public final class DoingTest implements Kinds {
    public static void main(String[] args) {
        minutes();
        sun();
        daysPass();
        batteryEmpty();
        timeOver();
        driving();
        drivingFails();
        images();
        toolsFail();
        sending();
        sendingInOrder();
        cleaning();
        checking();
        foretelling();
        running();
        reasonOfNoPlan();
        failingChangesNothing();
        Due.end("DoingTest");
    }

    /** Does this activity alone; answers the reason with which it fails, or 0. */
    private static int act(RoverPlanner p, int kind, int a, int b) {
        p.put(0, kind, a, b);
        int reason = p.reason();
        if (p.run(1) == 0) {
            p.remove(0);
        }
        return reason;
    }

    private static void rover(String when, RoverPlanner p, int time, int battery, int temperature) {
        Due.is(when + ": time", time, p.rover(0));
        Due.is(when + ": battery", battery, p.rover(3));
        Due.is(when + ": temperature", temperature, p.rover(4));
    }

    private static void minutes() {
        RoverPlanner p = new RoverPlanner();
        act(p, WAIT, 1, 0);
        rover("WAIT 1", p, 1, 2998, -21);
        act(p, WAIT, 6, 0);
        rover("WAIT 6", p, 6, 2988, -26);
        p = new RoverPlanner();
        act(p, SLEEP, 1, 0);
        rover("SLEEP 1", p, 1, 2999, -22);
        act(p, SLEEP, 15, 0);
        rover("SLEEP 15", p, 15, 2985, -41);
        act(p, SLEEP, 25, 0);
        rover("SLEEP 25", p, 25, 2975, -51);
        act(p, SLEEP, 60, 0);
        rover("SLEEP 60", p, 60, 2940, -51);
        act(p, WAIT, 61, 0);
        rover("WAIT 61", p, 61, 2938, -50);
        act(p, WAIT, 70, 0);
        rover("WAIT 70", p, 70, 2920, -50);
        p = new RoverPlanner();
        Due.is("HEAT", 0, act(p, HEAT, 1, 0));
        rover("HEAT", p, 0, 3000, -20);
        act(p, WAIT, 1, 0);
        rover("HEAT, WAIT 1", p, 1, 2995, -19);
        act(p, SLEEP, 2, 0);
        rover("HEAT, SLEEP 2", p, 2, 2991, -19);
        act(p, HEAT, 1, 0);
        act(p, WAIT, 3, 0);
        rover("HEAT once more", p, 3, 2986, -18);
        act(p, HEAT, 0, 0);
        act(p, WAIT, 4, 0);
        rover("HEAT off", p, 4, 2984, -19);
    }

    private static void sun() {
        RoverPlanner p = new RoverPlanner();
        act(p, SLEEP, 396, 0);
        Due.is("battery without the sun", 3000 - 396, p.rover(3));
        act(p, WAIT, 397, 0);
        Due.is("battery with a power of 1", 3000 - 397, p.rover(3));
        p.setRover(100, 800);
        act(p, SLEEP, 720, 0);
        Due.is("battery is full", 100, p.rover(3));
        act(p, WAIT, 721, 0);
        Due.is("battery stays full", 100, p.rover(3));
        act(p, CLEAN, 0, 0);
        Due.is("what is used comes ahead of the limit", 100, p.rover(3));
        act(p, HEAT, 1, 0);
        act(p, CLEAN, 0, 0);
        // 11 used of a power of 9: the light is less than 360 by now
        Due.is("more is used than the sun gives", 100 - 15 * 2, p.rover(3));
    }

    private static void daysPass() {
        RoverPlanner p = new RoverPlanner();
        act(p, SLEEP, 1439, 0);
        Due.is("clearness ahead of midnight", 100, p.rover(6));
        act(p, WAIT, 0, 0);
        Due.is("clearness at midnight", 99, p.rover(6));
        Due.is("time at midnight", 1440, p.rover(0));
        act(p, WAIT, 5, 0);
        Due.is("WAIT goes by the minute of the day", 1445, p.rover(0));
        act(p, WAIT, 5, 0);
        Due.is("WAIT for the same minute is a day", 2885, p.rover(0));
        Due.is("clearness of the next day", 98, p.rover(6));
        act(p, SLEEP, 5, 0);
        Due.is("SLEEP for the same minute is a day", 4325, p.rover(0));
        act(p, SLEEP, 4, 0);
        Due.is("SLEEP for the minute before is nearly a day", 5764, p.rover(0));
        Due.is("clearness then", 96, p.rover(6));
    }

    private static void batteryEmpty() {
        RoverPlanner p = new RoverPlanner();
        p.setRover(100, 800);
        Due.is("WAIT 51", 2, act(p, WAIT, 51, 0));
        rover("it is as it was", p, 0, 100, -20);
        Due.is("WAIT 50", 0, act(p, WAIT, 50, 0));
        Due.is("the battery is empty", 0, p.rover(3));
        Due.is("SLEEP 51", 2, act(p, SLEEP, 51, 0));
        Due.is("HEAT takes nothing", 0, act(p, HEAT, 1, 0));
        Due.is("a DRIVE to where it is takes nothing", 0, act(p, DRIVE, 0, 0));
        RoverPlanner q = new RoverPlanner();
        q.setRover(100, 800);
        Due.is("SLEEP 101", 2, act(q, SLEEP, 101, 0));
        Due.is("SLEEP 100", 0, act(q, SLEEP, 100, 0));
        RoverPlanner r = new RoverPlanner();
        r.setRover(100, 800);
        Due.is("CLEAN with 100", 2, act(r, CLEAN, 0, 0));
        Due.is("no time has gone by", 0, r.rover(0));
    }

    private static void timeOver() {
        RoverPlanner p = new RoverPlanner();
        p.addTarget(0, 0, 1, 1);
        p.addTarget(0, 0, 1, 4);
        for (int day = 0; day < 9; day++) {
            act(p, SLEEP, 0, 0);
        }
        act(p, SLEEP, 1390, 0);
        Due.is("time", 14350, p.rover(0));
        Due.is("SLEEP over the end", 7, act(p, SLEEP, 1, 0));
        Due.is("SEND without a pass", 6, act(p, SEND, 1, 0));
        p.mark();
        act(p, HEAT, 1, 0);
        act(p, WAIT, 1426, 0);
        Due.is("CLEAN over the end", 7, act(p, CLEAN, 0, 0));
        p.back(0);
        act(p, WAIT, 1425, 0);
        Due.is("CLEAN up to the end", 0, act(p, CLEAN, 0, 0));
        Due.is("time at the end", 14400, p.rover(0));
        p.back(0);
        p.setRover(100, 800);
        Due.is("SLEEP to the end", 0, act(p, WAIT, 0, 0));
        Due.is("clearness at the end", 90, p.rover(6));
        Due.is("battery at the end", 0, p.rover(3));
        Due.is("WAIT behind the end: this is looked at first", 7, act(p, WAIT, 0, 0));
        Due.is("DRIVE behind the end", 7, act(p, DRIVE, 1, 0));
        Due.is("CLEAN behind the end", 7, act(p, CLEAN, 0, 0));
        Due.is("HEAT behind the end", 0, act(p, HEAT, 1, 0));
        Due.is("DRIVE to where it is behind the end", 0, act(p, DRIVE, 0, 0));
        p.addPass(0, 1440, 1);
        Due.is("SEND of no data behind the end", 0, act(p, SEND, 1, 0));
        p.back(0);
        act(p, HEAT, 1, 0);
        p.setRover(4000, 800);
        Due.is("battery for an image", 0, p.rover(3) > 90 ? 0 : 1);
        act(p, WAIT, 1435, 0);
        Due.is("image over the end, or too cold", true, act(p, IMAGE, 0, 1) != 0);
    }

    private static void driving() {
        RoverPlanner p = new RoverPlanner();
        Due.is("DRIVE", 0, act(p, DRIVE, 2, 1));
        rover("DRIVE", p, 10, 3000 - 20 - 40, -30);
        Due.is("x", 2, p.rover(1));
        Due.is("y", 1, p.rover(2));
        Due.is("DRIVE to where it is", 0, act(p, DRIVE, 2, 1));
        Due.is("no time has gone by", 10, p.rover(0));
        // the energy of a step is used in its last minute: the battery is full ahead of it
        act(p, SLEEP, 715, 0);
        p.setRover(100, 800);
        Due.is("battery is full", 100, p.rover(3));
        act(p, DRIVE, 3, 1);
        Due.is("battery behind a step", 100 + 9 - 2 - 16, p.rover(3));
        RoverPlanner q = new RoverPlanner();
        q.setRover(100, 800);
        Due.is("DRIVE of 5 steps with 100", 2, act(q, DRIVE, 5, 0));
        Due.is("x is as it was", 0, q.rover(1));
        Due.is("DRIVE of 4 steps with 100", 0, act(q, DRIVE, 4, 0));
        Due.is("4 are left", 4, q.rover(3));
        RoverPlanner r = new RoverPlanner();
        r.setRover(100, 800);
        act(r, WAIT, 38, 0);
        Due.is("24 are left", 24, r.rover(3));
        Due.is("24 are enough for a step", 0, act(r, DRIVE, 0, 1));
        RoverPlanner s = new RoverPlanner();
        s.setRover(100, 800);
        act(s, SLEEP, 1, 0);
        act(s, WAIT, 39, 0);
        Due.is("23 are left", 23, s.rover(3));
        Due.is("23 are not", 2, act(s, DRIVE, 0, 1));
        RoverPlanner t = new RoverPlanner();
        t.raise(1, 1, 0, 0, 12);
        t.pave(1, 1, 0, 0, 1, false);
        act(t, DRIVE, 1, 0);
        // 2 * 3 and 12 / 3 minutes, 40 and 24 of energy
        rover("DRIVE up", t, 10, 3000 - 20 - 64, -30);
    }

    private static void drivingFails() {
        RoverPlanner p = new RoverPlanner();
        p.pave(5, 5, 5, 5, 0, true);
        Due.is("DRIVE into a hazard", 1, act(p, DRIVE, 5, 5));
        act(p, SLEEP, 24, 0);
        Due.is("temperature", -50, p.rover(4));
        p.mark();
        Due.is("DRIVE at -50", 0, act(p, DRIVE, 1, 0));
        p.back(0);
        act(p, SLEEP, 25, 0);
        Due.is("DRIVE at -51", 3, act(p, DRIVE, 1, 0));
        Due.is("DRIVE without a way at -51", 1, act(p, DRIVE, 5, 5));
        Due.is("DRIVE to where it is at -51", 0, act(p, DRIVE, 0, 0));
        p.pave(0, 0, 0, 0, 0, true);
        Due.is("DRIVE to where it is, which is a hazard", 0, act(p, DRIVE, 0, 0));
        act(p, WAIT, 26, 0);
        Due.is("DRIVE out of a hazard", 0, act(p, DRIVE, 1, 1));
        Due.is("DRIVE into it again", 1, act(p, DRIVE, 0, 0));
    }

    private static void images() {
        RoverPlanner p = new RoverPlanner();
        int[][] places = {{1, 0}, {1, 1}, {0, 1}};
        p.addTarget(0, 0, 1, 3);
        p.addTarget(2, 2, 1, 4);
        Due.is("IMAGE", 0, act(p, IMAGE, 0, 7));
        rover("IMAGE", p, 6, 2970, -26);
        Due.is("octant of itself", 8, p.piece(0, 3));
        for (int i = 0; i < places.length; i++) {
            act(p, DRIVE, places[i][0], places[i][1]);
            act(p, IMAGE, 0, 1);
            Due.is("octant " + i, i, p.piece(i + 1, 3));
        }
        act(p, DRIVE, 1, 1);
        int battery = p.rover(3);
        Due.is("TOUCH", 0, act(p, TOUCH, 1, 3));
        Due.is("TOUCH uses", battery - 25 * 7, p.rover(3));
        Due.is("size of a touch", 90, p.piece(4, 1));
        RoverPlanner q = new RoverPlanner();
        q.addTarget(5, 5, 1, 3);
        int[][] round = {{6, 5}, {6, 6}, {5, 6}, {4, 6}, {4, 5}, {4, 4}, {5, 4}, {6, 4}, {11, 4}, {5, 11}, {0, 5}};
        int[] octants = {0, 1, 2, 3, 4, 5, 6, 7, 7, 2, 4};
        for (int i = 0; i < round.length; i++) {
            act(q, DRIVE, round[i][0], round[i][1]);
            act(q, IMAGE, 0, 1);
            Due.is("octant of " + round[i][0] + " " + round[i][1], octants[i], q.piece(i, 3));
        }
    }

    private static void toolsFail() {
        RoverPlanner p = new RoverPlanner();
        p.addTarget(6, 6, 1, 1);
        p.addTarget(7, 0, 1, 1);
        p.addTarget(0, 2, 1, 4);
        p.addTarget(1, 1, 1, 4);
        p.addTarget(0, 4, 1, 1);
        p.raise(0, 0, 3, 3, 9);
        Due.is("IMAGE at a distance of 7", 5, act(p, IMAGE, 1, 1));
        Due.is("IMAGE of what is not seen", 5, act(p, IMAGE, 4, 1));
        Due.is("TOUCH at a distance of 2", 5, act(p, TOUCH, 2, 1));
        p.mark();
        Due.is("IMAGE at a distance of 6", 0, act(p, IMAGE, 0, 1));
        Due.is("TOUCH at a distance of 1", 0, act(p, TOUCH, 3, 1));
        p.setRover(4000, 169);
        Due.is("IMAGE without room", 4, act(p, IMAGE, 0, 1));
        p.setRover(4000, 170);
        Due.is("IMAGE with room", 0, act(p, IMAGE, 0, 1));
        p.back(0);
        p.setRover(4000, 89);
        Due.is("TOUCH without room", 4, act(p, TOUCH, 3, 1));
        Due.is("out of reach comes ahead", 5, act(p, TOUCH, 2, 1));
        p.setRover(4000, 90);
        Due.is("TOUCH with room", 0, act(p, TOUCH, 3, 1));
        p.back(0);
        act(p, SLEEP, 14, 0);
        Due.is("temperature", -40, p.rover(4));
        p.mark();
        Due.is("IMAGE at -40", 0, act(p, IMAGE, 0, 1));
        p.back(1);
        Due.is("TOUCH at -40", 0, act(p, TOUCH, 3, 1));
        p.back(1);
        act(p, SLEEP, 15, 0);
        p.setRover(4000, 40);
        Due.is("TOUCH at -41: ahead of the room", 3, act(p, TOUCH, 3, 1));
        Due.is("IMAGE at -41", 3, act(p, IMAGE, 0, 1));
        Due.is("IMAGE at -41 out of reach", 5, act(p, IMAGE, 1, 1));
        Due.is("IMAGE at -41 of what is not seen", 5, act(p, IMAGE, 4, 1));
        Due.is("TOUCH at -41 out of reach", 5, act(p, TOUCH, 2, 1));
        RoverPlanner q = new RoverPlanner();
        q.addTarget(0, 0, 1, 1);
        q.setRover(100, 800);
        act(q, WAIT, 35, 0);
        Due.is("30 are left", 30, q.rover(3));
        q.mark();
        Due.is("IMAGE uses 30", 0, act(q, IMAGE, 0, 1));
        q.back(0);
        act(q, SLEEP, 36, 0);
        Due.is("29 are left", 29, q.rover(3));
        Due.is("IMAGE with 29", 2, act(q, IMAGE, 0, 1));
        Due.is("no piece is kept", 0, q.rover(8));
    }

    private static void sending() {
        RoverPlanner p = new RoverPlanner();
        p.addTarget(0, 0, 1, 1);
        Due.is("SEND without a pass or data", 6, act(p, SEND, 5, 0));
        p.addPass(6, 8, 7);
        p.addPass(10, 11, 20);
        p.addPass(100, 200, 3);
        act(p, IMAGE, 0, 1);
        int battery = p.rover(3);
        Due.is("SEND", 0, act(p, SEND, 5, 0));
        Due.is("SEND takes all its minutes", 11, p.rover(0));
        Due.is("SEND uses", battery - 5 * 6, p.rover(3));
        Due.is("units by the rates of its minutes", 7 + 7 + 20, p.rover(9));
        Due.is("what is left", 6, p.piece(0, 1));
        Due.is("SEND behind the pass", 6, act(p, SEND, 5, 0));
        act(p, WAIT, 99, 0);
        Due.is("SEND one minute ahead of a pass", 6, act(p, SEND, 5, 0));
        act(p, WAIT, 100, 0);
        battery = p.rover(3);
        Due.is("SEND of the rest", 0, act(p, SEND, 600, 0));
        Due.is("it ends when there are no data", 102, p.rover(0));
        Due.is("it uses", battery - 2 * 6, p.rover(3));
        Due.is("all is sent", 40, p.rover(9));
        Due.is("nothing is kept", 0, p.rover(8));
        Due.is("SEND of no data", 0, act(p, SEND, 600, 0));
        Due.is("it takes no time", 102, p.rover(0));
        act(p, WAIT, 200, 0);
        Due.is("SEND of no data behind a pass", 6, act(p, SEND, 600, 0));
    }

    private static void sendingInOrder() {
        RoverPlanner p = new RoverPlanner();
        for (int i = 0; i < 5; i++) {
            p.addTarget(0, 0, 1, 1);
        }
        p.addPass(0, 1440, 15);
        int[] priorities = {2, 9, 1, 9, 5};
        for (int i = 0; i < 5; i++) {
            act(p, IMAGE, i, priorities[i]);
        }
        // by minutes: 15 a minute; the order is 1, 3, 4, 0, 2
        lefts(p, 2, 0, 40, 1, 10, 2, 40, 3, 40, 4, 40);
        lefts(p, 1, 0, 40, 2, 40, 3, 35, 4, 40);
        lefts(p, 3, 0, 40, 2, 40, 4, 30);
        Due.is("two are sent", 1, p.target(1, 5) + p.target(3, 5) - 1);
        lefts(p, 2, 0, 40, 2, 40);
        lefts(p, 3, 2, 35);
        lefts(p, 1, 2, 20);
        lefts(p, 3);
        Due.is("all is sent", 200, p.rover(9));
        Due.is("score", 5, p.score());
    }

    private static void lefts(RoverPlanner p, int minutes, int... due) {
        act(p, SEND, minutes, 0);
        Due.is("pieces", due.length / 2, p.rover(8));
        for (int i = 0; i + 1 < due.length; i += 2) {
            Due.is("target of piece " + i / 2, due[i], p.piece(i / 2, 0));
            Due.is("left of piece " + i / 2, due[i + 1], p.piece(i / 2, 1));
        }
    }

    private static void cleaning() {
        RoverPlanner p = new RoverPlanner();
        act(p, CLEAN, 0, 0);
        rover("CLEAN", p, 15, 3000 - 15 * 8, -31);
        Due.is("clearness is at most 100", 100, p.rover(6));
        for (int day = 0; day < 3; day++) {
            act(p, SLEEP, 0, 0);
        }
        Due.is("clearness", 97, p.rover(6));
        act(p, CLEAN, 0, 0);
        Due.is("clearness then", 100, p.rover(6));
    }

    private static void checking() {
        RoverPlanner p = new RoverPlanner();
        Due.is("check of no plan", -1, p.check());
        Due.is("reason of no plan", 0, p.reason());
        p.addTarget(0, 0, 1, 1);
        p.put(0, WAIT, 10, 0);
        p.put(1, DRIVE, 1, 1);
        Due.is("check", -1, p.check());
        Due.is("reason", 0, p.reason());
        p.put(2, SEND, 5, 0);
        p.put(3, TOUCH, 0, 1);
        Due.is("check: the third fails", 2, p.check());
        Due.is("reason of the third", 6, p.reason());
        p.addPass(0, 1440, 1);
        Due.is("check: none fails", -1, p.check());
        Due.is("reason of none", 0, p.reason());
        p.move(1, 3);
        p.put(0, CLEAN, 0, 0);
        p.pave(1, 1, 1, 1, 0, true);
        Due.is("check: the last fails", 4, p.check());
        Due.is("reason of the last", 1, p.reason());
        p.put(0, DRIVE, 1, 1);
        Due.is("check: the first fails", 0, p.check());
        rover("checked on a copy", p, 0, 3000, -20);
        Due.is("the plan is as it was", 6, p.count(2));
        p.remove(0);
        p.remove(4);
        Due.is("the reason is not kept", 0, p.reason());
        Due.is("nor the place", -1, p.check());
        p.put(0, SLEEP, 15, 0);
        p.put(1, IMAGE, 0, 1);
        Due.is("an earlier activity is why a later one fails", 1, p.check());
        Due.is("with the reason", 3, p.reason());
    }

    private static void foretelling() {
        RoverPlanner p = new RoverPlanner();
        p.addTarget(2, 2, 1, 1);
        p.addPass(0, 1440, 7);
        p.put(0, HEAT, 1, 0);
        p.put(1, DRIVE, 1, 0);
        p.put(2, IMAGE, 0, 1);
        p.put(3, SEND, 2, 0);
        p.put(4, SLEEP, 0, 0);
        p.put(5, TOUCH, 0, 1);
        p.put(6, HEAT, 0, 0);
        int[][] due = {{0, 0, 0, 3000, -20, 0, 100, 0, 0, 0}, {0, 0, 0, 3000, -20, 1, 100, 0, 0, 0}, {4, 1, 0, 2964, -17, 1, 100, 0, 0, 0},
            {10, 1, 0, 2916, -14, 1, 100, 40, 1, 0}, {12, 1, 0, 2898, -13, 1, 100, 26, 1, 14}};
        for (int many = 0; many < due.length; many++) {
            for (int what = 0; what <= 9; what++) {
                if (what != 4 || many < 2) {
                    Due.is("foretell " + many + " " + what, due[many][what], p.foretell(many, what));
                }
            }
        }
        Due.is("foretell 5 6", 99, p.foretell(5, 6));
        Due.state("foretell 6: it fails", () -> p.foretell(6, 0));
        Due.state("foretell 7: one ahead fails", () -> p.foretell(7, 0));
        for (int beyond : new int[] {-1, 8, Integer.MIN_VALUE, Integer.MAX_VALUE}) {
            Due.argument("foretell " + beyond, () -> p.foretell(beyond, 0));
            Due.outside("foretell " + beyond + " 10", () -> p.foretell(beyond, 10));
        }
        Due.outside("foretell what -1", () -> p.foretell(0, -1));
        Due.outside("foretell what 10 where it fails", () -> p.foretell(6, 10));
        rover("foretold on a copy", p, 0, 3000, -20);
        Due.is("no heater", 0, p.rover(5));
        Due.is("no piece", 0, p.rover(8));
        Due.is("the plan is as it was", 7, p.count(2));
    }

    private static void running() {
        RoverPlanner p = new RoverPlanner();
        Due.is("run of no plan", 0, p.run(40));
        for (int i = 0; i < 6; i++) {
            p.put(i, WAIT, 10 * i + 10, 0);
        }
        Due.argument("run 0", () -> p.run(0));
        Due.argument("run -1", () -> p.run(-1));
        Due.argument("run 41", () -> p.run(41));
        Due.argument("run least", () -> p.run(Integer.MIN_VALUE));
        Due.argument("run greatest", () -> p.run(Integer.MAX_VALUE));
        Due.is("run 2", 2, p.run(2));
        Due.is("time", 20, p.rover(0));
        Due.is("those are taken out", 4, p.count(2));
        Due.is("the next one", 30, p.activity(0, 1));
        p.put(2, SEND, 1, 0);
        Due.is("run to the one that fails", 2, p.run(40));
        Due.is("time then", 40, p.rover(0));
        Due.is("it stays", 3, p.activity(0, 0));
        Due.is("with those behind it", 3, p.count(2));
        Due.is("run again", 0, p.run(1));
        Due.is("it stays still", 3, p.count(2));
        p.remove(0);
        Due.is("run the rest", 2, p.run(40));
        Due.is("nothing is left", 0, p.count(2));
        Due.is("time at the end", 60, p.rover(0));
    }

    private static void reasonOfNoPlan() {
        RoverPlanner p = new RoverPlanner();
        p.put(0, SEND, 1, 0);
        Due.is("the reason", 6, p.reason());
        p.remove(0);
        Due.is("the reason of no plan", 0, p.reason());
        Due.is("no place", -1, p.check());
    }

    private static void failingChangesNothing() {
        RoverPlanner p = new RoverPlanner();
        p.addTarget(0, 0, 1, 1);
        p.addTarget(0, 0, 1, 1);
        p.addPass(0, 1440, 20);
        act(p, IMAGE, 0, 4);
        act(p, IMAGE, 1, 3);
        p.setRover(100, 800);
        act(p, SLEEP, 109, 0);
        Due.is("3 are left", 3, p.rover(3));
        p.setRover(100, 800);
        p.put(0, SEND, 600, 0);
        p.mark();
        long digest = p.digest();
        Due.is("SEND fails", 2, p.reason());
        Due.is("run", 0, p.run(40));
        Due.is("all is as it was ahead of it", digest, p.digest());
        Due.is("units are kept", 80, p.rover(7));
        Due.is("no octant is sent", 0, p.target(0, 2));
        Due.is("sent", 0.0, p.sent());
    }
}
