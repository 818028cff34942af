/** Promises 8 to 16: targets, passes and the rover. */
public final class TargetsTest {
    private static final int[] BEYOND = {-1, 24, Integer.MIN_VALUE, Integer.MAX_VALUE};

    public static void main(String[] args) {
        targetsAdded();
        targetsWrong();
        targetsTold();
        touchTold();
        passes();
        passesWrong();
        sky();
        settings();
        settingsWrong();
        roverTold();
        pieces();
        scores();
        Due.end("TargetsTest");
    }

    private static void targetsAdded() {
        RoverPlanner p = new RoverPlanner();
        for (int i = 0; i < 12; i++) {
            Due.is("addTarget " + i, i, p.addTarget(i, 23, 1 + 9 * i, 1 + i % 4));
            Due.is("count of targets", i + 1, p.count(0));
        }
        for (int i = 0; i < 12; i++) {
            Due.is("value of " + i, 1 + 9 * i, p.target(i, 0));
            Due.is("need of " + i, 1 + i % 4, p.target(i, 1));
            for (int what = 2; what <= 5; what++) {
                Due.is("target " + i + " " + what, 0, p.target(i, what));
            }
        }
        Due.state("a thirteenth target", () -> p.addTarget(0, 0, 1, 1));
        Due.argument("a thirteenth target without a value", () -> p.addTarget(0, 0, 0, 1));
        Due.argument("a thirteenth target with the need 5", () -> p.addTarget(0, 0, 1, 5));
        Due.outside("a thirteenth target nowhere", () -> p.addTarget(0, 24, 0, 1));
        Due.is("count of targets then", 12, p.count(0));
        RoverPlanner q = new RoverPlanner();
        Due.is("a hazard may be a target", 0, q.pave(5, 5, 5, 5, 0, true) - 1 + q.addTarget(5, 5, 100, 4));
        Due.is("two targets at one place", 1, q.addTarget(5, 5, 1, 1));
    }

    private static void targetsWrong() {
        RoverPlanner p = new RoverPlanner();
        for (int beyond : BEYOND) {
            Due.outside("addTarget x " + beyond, () -> p.addTarget(beyond, 0, 1, 1));
            Due.outside("addTarget y " + beyond, () -> p.addTarget(0, beyond, 1, 1));
            Due.outside("addTarget y and value " + beyond, () -> p.addTarget(0, beyond, 0, 0));
        }
        Due.argument("addTarget value 0", () -> p.addTarget(0, 0, 0, 1));
        Due.argument("addTarget value 101", () -> p.addTarget(0, 0, 101, 1));
        Due.argument("addTarget need 0", () -> p.addTarget(0, 0, 1, 0));
        Due.argument("addTarget need 5", () -> p.addTarget(0, 0, 1, 5));
        Due.is("no target is there", 0, p.count(0));
        Due.outside("target without any", () -> p.target(0, 0));
        p.addTarget(0, 0, 1, 1);
        for (int beyond : new int[] {-1, 1, 12, Integer.MIN_VALUE, Integer.MAX_VALUE}) {
            Due.outside("target " + beyond, () -> p.target(beyond, 0));
        }
        Due.outside("target what -1", () -> p.target(0, -1));
        Due.outside("target what 6", () -> p.target(0, 6));
    }

    private static void target(RoverPlanner p, String when, int target, int octantsSent, int octants, int touch, int done) {
        Due.is(when + ": target " + target + " 2", octantsSent, p.target(target, 2));
        Due.is(when + ": target " + target + " 3", octants, p.target(target, 3));
        Due.is(when + ": target " + target + " 4", touch, p.target(target, 4));
        Due.is(when + ": target " + target + " 5", done, p.target(target, 5));
    }

    private static void targetsTold() {
        RoverPlanner p = new RoverPlanner();
        p.addTarget(0, 0, 50, 2);
        p.addTarget(1, 1, 20, 1);
        p.addPass(0, 1440, 20);
        Acts.one(p, 1, 0, 5);
        target(p, "one kept", 0, 0, 1, 0, 0);
        Acts.one(p, 1, 0, 5);
        target(p, "the same octant again", 0, 0, 1, 0, 0);
        Acts.one(p, 3, 3, 0);
        target(p, "one sent, one in part", 0, 1, 1, 0, 0);
        Acts.one(p, 3, 1, 0);
        target(p, "both sent", 0, 1, 1, 0, 0);
        Due.is("no score yet", 0, p.score());
        Acts.one(p, 0, 1, 0);
        Acts.one(p, 1, 0, 5);
        target(p, "another octant kept", 0, 1, 2, 0, 0);
        Acts.one(p, 3, 1, 0);
        target(p, "sent in part only", 0, 1, 2, 0, 0);
        Acts.one(p, 3, 1, 0);
        target(p, "another octant sent", 0, 2, 2, 0, 1);
        target(p, "the other target", 1, 0, 0, 0, 0);
        Due.is("score", 50, p.score());
        Acts.one(p, 1, 1, 5);
        Acts.one(p, 3, 2, 0);
        target(p, "the other target sent", 1, 1, 1, 0, 1);
        Due.is("score of both", 70, p.score());
    }

    private static void touchTold() {
        RoverPlanner p = new RoverPlanner();
        p.addTarget(1, 1, 30, 4);
        p.addTarget(1, 0, 40, 1);
        p.addPass(0, 1440, 20);
        Due.is("image of what is to be touched", 1, Acts.one(p, 1, 0, 1));
        Due.is("sent", 1, Acts.one(p, 3, 9, 0));
        target(p, "an image is no touch", 0, 1, 1, 0, 0);
        Due.is("heat", 1, Acts.one(p, 6, 1, 0));
        Due.is("touch", 1, Acts.one(p, 2, 0, 1));
        target(p, "touch kept", 0, 1, 1, 0, 0);
        Acts.one(p, 3, 4, 0);
        target(p, "touch sent in part", 0, 1, 1, 0, 0);
        Acts.one(p, 3, 1, 0);
        target(p, "touch sent", 0, 1, 1, 1, 1);
        Due.is("touch of what is to be seen", 1, Acts.one(p, 2, 1, 1));
        Due.is("sent, too", 1, Acts.one(p, 3, 9, 0));
        target(p, "a touch is no image", 1, 0, 0, 1, 0);
        Due.is("score", 30, p.score());
    }

    private static void passes() {
        RoverPlanner p = new RoverPlanner();
        Due.is("addPass", 1, p.addPass(100, 200, 5));
        Due.is("addPass over it", 2, p.addPass(150, 160, 9));
        Due.is("addPass below it", 3, p.addPass(190, 210, 2));
        int[][] due = {{0, 0}, {99, 0}, {100, 5}, {149, 5}, {150, 9}, {159, 9}, {160, 5}, {190, 5}, {199, 5}, {200, 2}, {209, 2}, {210, 0}, {1439, 0}};
        for (int[] d : due) {
            Due.is("rate " + d[0], d[1], p.rate(d[0]));
        }
        Due.is("the whole day", 4, p.addPass(0, 1440, 1));
        Due.is("its first minute", 1, p.rate(0));
        Due.is("its last minute", 1, p.rate(1439));
        Due.is("one minute", 5, p.addPass(1439, 1440, 20));
        Due.is("its rate", 20, p.rate(1439));
        Due.is("ahead of it", 1, p.rate(1438));
        Due.is("the sixth", 6, p.addPass(0, 1, 20));
        Due.state("a seventh", () -> p.addPass(0, 1, 20));
        Due.argument("a seventh without a rate", () -> p.addPass(0, 1, 0));
        Due.is("count of passes", 6, p.count(1));
    }

    private static void passesWrong() {
        RoverPlanner p = new RoverPlanner();
        Due.argument("from -1", () -> p.addPass(-1, 5, 1));
        Due.argument("from 1440", () -> p.addPass(1440, 1441, 1));
        Due.argument("from 1440 to 1440", () -> p.addPass(1440, 1440, 1));
        Due.argument("to is from", () -> p.addPass(10, 10, 1));
        Due.argument("to is less", () -> p.addPass(10, 9, 1));
        Due.argument("to 1441", () -> p.addPass(10, 1441, 1));
        Due.argument("rate 0", () -> p.addPass(10, 11, 0));
        Due.argument("rate 21", () -> p.addPass(10, 11, 21));
        Due.is("no pass is there", 0, p.count(1));
        for (int beyond : new int[] {-1, 1440, Integer.MIN_VALUE, Integer.MAX_VALUE}) {
            Due.argument("rate " + beyond, () -> p.rate(beyond));
            Due.argument("sky " + beyond, () -> p.sky(beyond, false));
            Due.argument("sky of air " + beyond, () -> p.sky(beyond, true));
        }
    }

    private static void sky() {
        RoverPlanner p = new RoverPlanner();
        // minute, power, air
        int[][] due = {{0, 0, -70}, {359, 0, -70}, {360, 0, -70}, {365, 0, -70}, {366, 0, -69}, {395, 0, -65}, {396, 1, -64},
            {719, 9, -11}, {720, 10, -10}, {721, 9, -11}, {900, 5, -40}, {1044, 1, -64}, {1045, 0, -65}, {1079, 0, -70}, {1080, 0, -70}, {1439, 0, -70}};
        for (int[] d : due) {
            Due.is("sky " + d[0], d[1], p.sky(d[0], false));
            Due.is("sky of air " + d[0], d[2], p.sky(d[0], true));
        }
        Acts.one(p, 5, 0, 0);
        Due.is("clearness", 99, p.rover(6));
        // 360 * 99 / 3600 is 9.9, and 40 * 99 / 3600 is 1.1
        Due.is("sky 720 by the clearness of now", 9, p.sky(720, false));
        Due.is("sky 396 by the clearness of now", 0, p.sky(396, false));
        Due.is("sky 400 by the clearness of now", 1, p.sky(400, false));
        Due.is("air is as it was", -10, p.sky(720, true));
    }

    private static void settings() {
        RoverPlanner p = new RoverPlanner();
        Due.is("setRover", 4000, p.setRover(20000, 5000));
        Due.is("battery is as it was", 3000, p.rover(3));
        Due.is("setRover again", 20000, p.setRover(3000, 40));
        Due.is("battery just full", 3000, p.rover(3));
        Due.is("setRover less", 3000, p.setRover(100, 40));
        Due.is("battery emptied", 100, p.rover(3));
        Due.is("setRover more", 100, p.setRover(4000, 40));
        Due.is("battery is not filled", 100, p.rover(3));
        p.addTarget(1, 1, 1, 1);
        Due.is("room for one", 1, Acts.one(p, 1, 0, 1));
        p.put(0, 1, 0, 1);
        Due.is("no room for two", 4, p.reason());
        p.setRover(4000, 79);
        Due.is("still no room for two", 4, p.reason());
        p.setRover(4000, 80);
        Due.is("room for two", 0, p.reason());
        RoverPlanner q = new RoverPlanner();
        q.addTarget(0, 0, 1, 1);
        Acts.one(q, 5, 500, 0);
        Acts.one(q, 6, 1, 0);
        Acts.one(q, 4, 600, 0);
        int images = 0;
        for (int i = 0; i < 25; i++) {
            images += Acts.one(q, 1, 0, 1);
        }
        Due.is("a memory of 800 holds 20 images", 20, images);
        q.addPass(0, 1440, 13);
        Acts.one(q, 3, 3, 0);
        Due.is("761 units are kept", 761, q.rover(7));
        Due.is("a memory of 800 has no room for one more", 0, Acts.one(q, 1, 0, 1));
        Acts.one(q, 3, 1, 0);
        Due.is("748 units leave room", 1, Acts.one(q, 1, 0, 1));
    }

    private static void settingsWrong() {
        RoverPlanner p = new RoverPlanner();
        p.addTarget(0, 0, 1, 1);
        Acts.one(p, 1, 0, 1);
        Acts.one(p, 1, 0, 1);
        Due.argument("capacity 99", () -> p.setRover(99, 800));
        Due.argument("capacity 20001", () -> p.setRover(20001, 800));
        Due.argument("memory 39", () -> p.setRover(4000, 39));
        Due.argument("memory 5001", () -> p.setRover(4000, 5001));
        Due.state("more data than memory", () -> p.setRover(100, 79));
        Due.argument("the argument first", () -> p.setRover(99, 79));
        Due.is("nothing is changed", 4000, p.setRover(4000, 80));
        p.addPass(0, 1440, 1);
        Acts.one(p, 3, 1, 0);
        Due.is("as many data as memory", 4000, p.setRover(4000, 79));
        Due.state("one more than memory", () -> p.setRover(4000, 78));
    }

    private static void roverTold() {
        RoverPlanner p = new RoverPlanner();
        p.addTarget(3, 2, 1, 1);
        p.addPass(0, 1440, 7);
        Acts.one(p, 6, 1, 0);
        Acts.one(p, 0, 2, 1);
        // 10 minutes of 5 (awake, heater), 24 for the one step and 16 for the other one
        int[] due = {10, 2, 1, 2910, -19, 1, 100, 0, 0, 0};
        for (int what = 0; what <= 9; what++) {
            if (what != 4) {
                Due.is("rover " + what, due[what], p.rover(what));
            }
        }
        Acts.one(p, 1, 0, 4);
        Acts.one(p, 1, 0, 4);
        Acts.one(p, 3, 6, 0);
        Due.is("time", 28, p.rover(0));
        Due.is("units kept", 38, p.rover(7));
        Due.is("pieces kept", 1, p.rover(8));
        Due.is("units sent", 42, p.rover(9));
        Acts.one(p, 6, 0, 0);
        Due.is("heater off", 0, p.rover(5));
        for (int beyond : new int[] {-1, 10, Integer.MIN_VALUE, Integer.MAX_VALUE}) {
            Due.outside("rover " + beyond, () -> p.rover(beyond));
        }
    }

    private static void piece(RoverPlanner p, int piece, int... due) {
        for (int what = 0; what <= 3; what++) {
            Due.is("piece " + piece + " " + what, due[what], p.piece(piece, what));
        }
    }

    private static void pieces() {
        RoverPlanner p = new RoverPlanner();
        p.addTarget(1, 1, 1, 4);
        p.addTarget(0, 0, 1, 3);
        p.addTarget(0, 3, 1, 3);
        Due.outside("piece without any", () -> p.piece(0, 0));
        Acts.one(p, 6, 1, 0);
        Acts.one(p, 1, 1, 2);
        Acts.one(p, 2, 0, 9);
        Acts.one(p, 1, 2, 2);
        Acts.one(p, 1, 0, 9);
        piece(p, 0, 1, 40, 2, 8);
        piece(p, 1, 0, 90, 9, 9);
        piece(p, 2, 2, 40, 2, 6);
        piece(p, 3, 0, 40, 9, 5);
        for (int beyond : new int[] {-1, 4, Integer.MIN_VALUE, Integer.MAX_VALUE}) {
            Due.outside("piece " + beyond, () -> p.piece(beyond, 0));
        }
        Due.outside("piece what -1", () -> p.piece(0, -1));
        Due.outside("piece what 4", () -> p.piece(0, 4));
        p.addPass(0, 1440, 20);
        Acts.one(p, 3, 4, 0);
        piece(p, 1, 0, 10, 9, 9);
        Acts.one(p, 3, 1, 0);
        piece(p, 0, 1, 40, 2, 8);
        piece(p, 1, 2, 40, 2, 6);
        piece(p, 2, 0, 30, 9, 5);
        Acts.one(p, 3, 2, 0);
        piece(p, 0, 1, 30, 2, 8);
        piece(p, 1, 2, 40, 2, 6);
        Due.outside("piece that was sent", () -> p.piece(2, 0));
        Acts.one(p, 3, 600, 0);
        Due.outside("no piece is left", () -> p.piece(0, 0));
        Due.is("all sent", 210, p.rover(9));
    }

    private static void scores() {
        RoverPlanner p = new RoverPlanner();
        p.addTarget(0, 0, 100, 1);
        p.addTarget(1, 0, 99, 4);
        p.addTarget(0, 1, 7, 1);
        p.addPass(0, 1440, 20);
        Acts.one(p, 6, 1, 0);
        Acts.one(p, 1, 0, 1);
        Acts.one(p, 2, 1, 1);
        Acts.one(p, 1, 2, 1);
        Due.is("score of what is kept only", 0, p.score());
        Acts.one(p, 3, 2, 0);
        Due.is("score of one", 100, p.score());
        Acts.one(p, 3, 5, 0);
        Due.is("score of two", 199, p.score());
        Acts.one(p, 3, 5, 0);
        Due.is("score of all", 206, p.score());
    }
}
