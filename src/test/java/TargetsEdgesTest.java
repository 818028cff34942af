/** The boundary cases of promises 8 to 16, sentence by sentence. */
public final class TargetsEdgesTest implements Kinds {
    public static void main(String[] args) {
        targetPlaces();
        targetNumbers();
        mostTargets();
        targetAsked();
        needOfImages();
        needOfTouch();
        needIsOfWhatWasSent();
        passLimits();
        mostPasses();
        rateMinutes();
        rateOfPasses();
        skyMinutes();
        skyOfLight();
        skyOfNow();
        settings();
        fullerBattery();
        moreDataThanMemory();
        roverAsked();
        roverAtItsEnds();
        pieceAsked();
        piecesInOrder();
        scores();
        Edge.end("TargetsEdgesTest", 8, 16);
    }

    // ---- promise 8

    private static void targetPlaces() {
        Edge.of(8, "if there is no such place");
        RoverPlanner p = new RoverPlanner();
        Due.outside("x -1", () -> p.addTarget(-1, 0, 1, 1));
        Due.outside("x 24", () -> p.addTarget(24, 0, 1, 1));
        Due.outside("y -1", () -> p.addTarget(0, -1, 1, 1));
        Due.outside("y 24", () -> p.addTarget(0, 24, 1, 1));
        for (int far : Edge.FAR) {
            Due.outside("x " + far, () -> p.addTarget(far, 0, 1, 1));
            Due.outside("y " + far, () -> p.addTarget(0, far, 1, 1));
        }
        Due.is("none is added", 0, p.count(0));
        Due.is("the first place", 0, p.addTarget(0, 0, 1, 1));
        Due.is("the last place", 1, p.addTarget(23, 23, 1, 1));
        Due.is("the corner of the greatest x", 2, p.addTarget(23, 0, 1, 1));
        Due.is("the corner of the greatest y", 3, p.addTarget(0, 23, 1, 1));
        Due.is("it is there", 17, p.nearest(3));
        Due.is("the other one is there", 1700, p.nearest(2));
    }

    private static void targetNumbers() {
        Edge.of(8, "if value is not 1 to 100, or need is not 1 to 4");
        RoverPlanner p = new RoverPlanner();
        Due.argument("value 0", () -> p.addTarget(0, 0, 0, 1));
        Due.argument("value 101", () -> p.addTarget(0, 0, 101, 1));
        Due.argument("need 0", () -> p.addTarget(0, 0, 1, 0));
        Due.argument("need 5", () -> p.addTarget(0, 0, 1, 5));
        for (int far : Edge.FAR) {
            Due.argument("value " + far, () -> p.addTarget(0, 0, far, 1));
            Due.argument("need " + far, () -> p.addTarget(0, 0, 1, far));
        }
        Due.is("none is added", 0, p.count(0));
        Due.is("value 1, need 1", 0, p.addTarget(0, 0, 1, 1));
        Due.is("value 100, need 4", 1, p.addTarget(0, 0, 100, 4));
        Due.is("value", 1, p.target(0, 0));
        Due.is("need", 1, p.target(0, 1));
        Due.is("greatest value", 100, p.target(1, 0));
        Due.is("greatest need", 4, p.target(1, 1));
    }

    private static void mostTargets() {
        Edge.of(8, "There are at most 12, numbered from 0 in the order of their creation.");
        RoverPlanner p = new RoverPlanner();
        for (int i = 0; i < 12; i++) {
            Due.is("number", i, p.addTarget(0, 0, i + 1, 1));
        }
        for (int i = 0; i < 12; i++) {
            Due.is("value of " + i, i + 1, p.target(i, 0));
        }
        Edge.of(8, "if there are 12 targets");
        Due.state("a thirteenth", () -> p.addTarget(0, 0, 1, 1));
        Due.is("count", 12, p.count(0));
        Due.is("the last one is as it was", 12, p.target(11, 0));
        Due.outside("there is no thirteenth", () -> p.target(12, 0));
    }

    // ---- promise 9

    private static void targetAsked() {
        Edge.of(9, "if there is no such target, or what is not 0 to 5");
        RoverPlanner p = new RoverPlanner();
        Due.outside("the first of none", () -> p.target(0, 0));
        p.addTarget(0, 0, 7, 2);
        p.addTarget(0, 0, 8, 3);
        Due.is("the last one", 8, p.target(1, 0));
        Due.is("the last what", 0, p.target(1, 5));
        Due.outside("target -1", () -> p.target(-1, 0));
        Due.outside("target 2 of 2", () -> p.target(2, 0));
        Due.outside("what -1", () -> p.target(0, -1));
        Due.outside("what 6", () -> p.target(0, 6));
        for (int far : Edge.FAR) {
            Due.outside("target " + far, () -> p.target(far, 0));
            Due.outside("what " + far, () -> p.target(0, far));
        }
    }

    /** A planner whose rover took these images of the target 0 at (5, 5), each from another octant. */
    private static RoverPlanner withImages(int need, int images) {
        int[] xs = {5, 6, 6};
        int[] ys = {5, 5, 6};
        RoverPlanner p = new RoverPlanner();
        p.addTarget(5, 5, 10, need);
        p.addPass(0, 1440, 20);
        for (int i = 0; i < images; i++) {
            Edge.act(p, DRIVE, xs[i], ys[i]);
            Edge.act(p, IMAGE, 0, 5);
        }
        return p;
    }

    private static void needOfImages() {
        Edge.of(9, "so many images from different octants (8 is one, too)");
        for (int need = 1; need <= 3; need++) {
            for (int images = 0; images <= 3; images++) {
                RoverPlanner p = withImages(need, images);
                Edge.act(p, SEND, 600, 0);
                Due.is("need " + need + ", octants " + images, images, p.target(0, 2));
                Due.is("need " + need + ", octants " + images + ": done", images >= need ? 1 : 0, p.target(0, 5));
            }
        }
        RoverPlanner p = withImages(1, 1);
        Due.is("octant of a place that is the target's", 8, p.piece(0, 3));
        Edge.act(p, IMAGE, 0, 5);
        Edge.act(p, IMAGE, 0, 5);
        Due.is("three from the same octant", 1, p.target(0, 3));
        Edge.act(p, SEND, 600, 0);
        Due.is("three from the same octant, sent", 1, p.target(0, 2));
        RoverPlanner q = new RoverPlanner();
        q.addTarget(0, 0, 1, 2);
        q.addPass(0, 1440, 20);
        Edge.act(q, IMAGE, 0, 5);
        Edge.act(q, IMAGE, 0, 5);
        Edge.act(q, IMAGE, 0, 5);
        Edge.act(q, SEND, 600, 0);
        Due.is("three from the same octant are not two", 0, q.target(0, 5));
        RoverPlanner all = new RoverPlanner();
        all.addTarget(5, 5, 1, 3);
        all.addPass(0, 1440, 20);
        for (int x = 4; x <= 6; x++) {
            for (int y = 4; y <= 6; y++) {
                Edge.act(all, DRIVE, x, y);
                Edge.act(all, IMAGE, 0, 5);
            }
        }
        Due.is("all nine octants", 9, all.target(0, 3));
        Edge.act(all, SEND, 600, 0);
        Due.is("all nine octants, sent", 9, all.target(0, 2));
        Due.is("no touch among them", 0, all.target(0, 4));
    }

    private static void needOfTouch() {
        Edge.of(9, "or 4: a touch");
        RoverPlanner p = withImages(4, 3);
        Edge.act(p, SEND, 600, 0);
        Due.is("images from three octants are no touch", 0, p.target(0, 5));
        Edge.act(p, TOUCH, 0, 5);
        Due.is("a touch that is kept", 0, p.target(0, 5));
        Due.is("a touch that is kept: what 4", 0, p.target(0, 4));
        Edge.act(p, SEND, 600, 0);
        Due.is("a touch that was sent", 1, p.target(0, 5));
        Due.is("a touch that was sent: what 4", 1, p.target(0, 4));
        Due.is("a touch has no octant", 3, p.target(0, 3));
        RoverPlanner q = withImages(3, 2);
        Edge.act(q, TOUCH, 0, 5);
        Edge.act(q, SEND, 600, 0);
        Due.is("two images and a touch are not three images", 0, q.target(0, 5));
        Due.is("but the touch was sent", 1, q.target(0, 4));
    }

    private static void needIsOfWhatWasSent() {
        Edge.of(9, "A target is done, if its need is met by pieces that were sent.");
        RoverPlanner p = withImages(2, 2);
        Due.is("both kept", 0, p.target(0, 5));
        Due.is("both kept: octants sent", 0, p.target(0, 2));
        Due.is("both kept: octants", 2, p.target(0, 3));
        Edge.act(p, SEND, 2, 0);
        Due.is("one sent", 0, p.target(0, 5));
        Due.is("one sent: octants sent", 1, p.target(0, 2));
        Edge.act(p, SEND, 1, 0);
        Due.is("one sent, and half of the other one", 0, p.target(0, 5));
        Due.is("one sent, and half of the other one: octants sent", 1, p.target(0, 2));
        Due.is("one sent, and half of the other one: octants", 2, p.target(0, 3));
        Edge.act(p, SEND, 1, 0);
        Due.is("both sent", 1, p.target(0, 5));
        Due.is("both sent: octants sent", 2, p.target(0, 2));
    }

    // ---- promise 10

    private static void passLimits() {
        Edge.of(10, "if from is not 0 to 1439, to is not greater than from or greater than 1440, or rate is not 1 to 20");
        RoverPlanner p = new RoverPlanner();
        Due.argument("from -1", () -> p.addPass(-1, 1440, 1));
        Due.argument("from 1440", () -> p.addPass(1440, 1441, 1));
        Due.argument("to is from", () -> p.addPass(700, 700, 1));
        Due.argument("to is from, less 1", () -> p.addPass(700, 699, 1));
        Due.argument("to is from, 0", () -> p.addPass(0, 0, 1));
        Due.argument("to 1441", () -> p.addPass(0, 1441, 1));
        Due.argument("from and to 1440", () -> p.addPass(1440, 1440, 1));
        Due.argument("rate 0", () -> p.addPass(0, 1440, 0));
        Due.argument("rate 21", () -> p.addPass(0, 1440, 21));
        for (int far : Edge.FAR) {
            Due.argument("from " + far, () -> p.addPass(far, 1440, 1));
            Due.argument("to " + far, () -> p.addPass(0, far, 1));
            Due.argument("rate " + far, () -> p.addPass(0, 1440, far));
        }
        Due.is("none is added", 0, p.count(1));
        Due.is("and the rate is 0", 0, p.rate(720));
        Due.is("one minute, the first one", 1, p.addPass(0, 1, 1));
        Due.is("one minute, the last one", 2, p.addPass(1439, 1440, 20));
        Due.is("the whole day", 3, p.addPass(0, 1440, 1));
    }

    private static void mostPasses() {
        Edge.of(10, "if there are 6 passes");
        RoverPlanner p = new RoverPlanner();
        for (int i = 1; i <= 6; i++) {
            Due.is("number", i, p.addPass(i, i + 1, i));
        }
        Due.state("a seventh", () -> p.addPass(7, 8, 7));
        Due.is("count", 6, p.count(1));
        Due.is("rate of the seventh", 0, p.rate(7));
        Due.is("rate of the sixth", 6, p.rate(6));
        Due.is("rate of the first", 1, p.rate(1));
    }

    // ---- promise 11

    private static void rateMinutes() {
        Edge.of(11, "if minute is not 0 to 1439");
        RoverPlanner p = new RoverPlanner();
        p.addPass(0, 1440, 3);
        Due.is("0", 3, p.rate(0));
        Due.is("1439", 3, p.rate(1439));
        Due.argument("-1", () -> p.rate(-1));
        Due.argument("1440", () -> p.rate(1440));
        Due.argument("2880", () -> p.rate(2880));
        for (int far : Edge.FAR) {
            Due.argument("" + far, () -> p.rate(far));
        }
    }

    private static void rateOfPasses() {
        Edge.of(11, "(from the first one on, ahead of the end); 0 if there is none");
        RoverPlanner p = new RoverPlanner();
        p.addPass(100, 102, 4);
        Due.is("ahead of its first minute", 0, p.rate(99));
        Due.is("its first minute", 4, p.rate(100));
        Due.is("its last minute", 4, p.rate(101));
        Due.is("its end", 0, p.rate(102));
        p.addPass(0, 1, 5);
        p.addPass(1439, 1440, 6);
        Due.is("minute 0", 5, p.rate(0));
        Due.is("minute 1", 0, p.rate(1));
        Due.is("minute 1438", 0, p.rate(1438));
        Due.is("minute 1439", 6, p.rate(1439));
        Edge.of(11, "At a minute the rate is the greatest one of all passes with this minute of the day");
        p.addPass(101, 110, 20);
        p.addPass(105, 106, 1);
        Due.is("only the first one", 4, p.rate(100));
        Due.is("the greater one comes later", 20, p.rate(101));
        Due.is("the greater one comes ahead", 20, p.rate(105));
        p.addPass(101, 102, 20);
        Due.is("two of the same rate", 20, p.rate(101));
        Edge.of(11, "There are at most 6, the same on each day.");
        RoverPlanner q = new RoverPlanner();
        q.addTarget(0, 0, 1, 1);
        q.addPass(10, 11, 20);
        Edge.act(q, IMAGE, 0, 1);
        for (int day = 0; day < 2; day++) {
            Edge.act(q, SLEEP, 10, 0);
            Due.is("sent on the day " + day, 0, Edge.act(q, SEND, 1, 0));
            Due.is("units", 20 * day + 20, q.rover(9));
        }
    }

    // ---- promise 12

    private static void skyMinutes() {
        Edge.of(12, "if minute is not 0 to 1439");
        RoverPlanner p = new RoverPlanner();
        for (boolean isOfAir : new boolean[] {false, true}) {
            Due.is("0", isOfAir ? -70 : 0, p.sky(0, isOfAir));
            Due.is("1439", isOfAir ? -70 : 0, p.sky(1439, isOfAir));
            Due.argument("-1", () -> p.sky(-1, isOfAir));
            Due.argument("1440", () -> p.sky(1440, isOfAir));
            Due.argument("2160", () -> p.sky(2160, isOfAir));
            for (int far : Edge.FAR) {
                Due.argument("" + far, () -> p.sky(far, isOfAir));
            }
        }
    }

    private static void skyOfLight() {
        Edge.of(12, "For a minute m of the day, the light is 360 - |m - 720|, if m is 360 to 1079, otherwise 0.");
        for (int part = 0; part < 3; part++) {
            RoverPlanner p = new RoverPlanner();
            for (int m = 480 * part; m < 480 * part + 480; m++) {
                // the light grows from 0 at 360 to 360 at 720, and goes back to 1 at 1079
                int light = m < 360 ? 0 : m <= 720 ? m - 360 : m < 1080 ? 1080 - m : 0;
                Due.is("power at " + m, light / 36, p.sky(m, false));
            }
            RoverPlanner q = new RoverPlanner();
            for (int m = 480 * part; m < 480 * part + 480; m++) {
                int light = m < 360 ? 0 : m <= 720 ? m - 360 : m < 1080 ? 1080 - m : 0;
                Due.is("air at " + m, light / 6 - 70, q.sky(m, true));
            }
        }
        Edge.of(12, "The power of the sun is the light, times the clearness (100, at first), divided by 3600. The air has the temperature -70 + light / 6.");
        RoverPlanner p = new RoverPlanner();
        int[][] due = {{359, 0, -70}, {360, 0, -70}, {365, 0, -70}, {366, 0, -69}, {395, 0, -65}, {396, 1, -64}, {719, 9, -11}, {720, 10, -10},
            {721, 9, -11}, {1044, 1, -64}, {1045, 0, -65}, {1074, 0, -69}, {1075, 0, -70}, {1079, 0, -70}, {1080, 0, -70}};
        for (int[] d : due) {
            Due.is("power at " + d[0], d[1], p.sky(d[0], false));
            Due.is("air at " + d[0], d[2], p.sky(d[0], true));
        }
    }

    private static void skyOfNow() {
        Edge.of(12, "by the clearness of now");
        RoverPlanner p = new RoverPlanner();
        for (int day = 1; day <= 9; day++) {
            Edge.act(p, SLEEP, 0, 0);
            Due.is("clearness of the day " + day, 100 - day, p.rover(6));
            Due.is("greatest power of the day " + day, (100 - day) / 10, p.sky(720, false));
            Due.is("the air is as it was", -10, p.sky(720, true));
        }
        // 356 * 91 is 32396: 4 less than 9 * 3600
        Due.is("power of the light 356", 8, p.sky(716, false));
        Due.is("power of the light 357", 9, p.sky(717, false));
        RoverPlanner q = new RoverPlanner();
        q.mark();
        Edge.act(q, SLEEP, 0, 0);
        Due.is("on the next day", 9, q.sky(720, false));
        q.back(0);
        Due.is("back on the first one", 10, q.sky(720, false));
    }

    // ---- promise 13

    private static void settings() {
        Edge.of(13, "if capacity is not 100 to 20000, or memory is not 40 to 5000");
        RoverPlanner p = new RoverPlanner();
        Due.argument("capacity 99", () -> p.setRover(99, 800));
        Due.argument("capacity 20001", () -> p.setRover(20001, 800));
        Due.argument("memory 39", () -> p.setRover(4000, 39));
        Due.argument("memory 5001", () -> p.setRover(4000, 5001));
        for (int far : Edge.FAR) {
            Due.argument("capacity " + far, () -> p.setRover(far, 800));
            Due.argument("memory " + far, () -> p.setRover(4000, far));
        }
        Edge.of(13, "Returns the capacity before.");
        Due.is("the first", 4000, p.setRover(20000, 40));
        Due.is("of the greatest", 20000, p.setRover(100, 5000));
        Due.argument("capacity 99", () -> p.setRover(99, 800));
        Due.is("of the least", 100, p.setRover(100, 5000));
    }

    private static void fullerBattery() {
        Edge.of(13, "a battery that is fuller is emptied to the capacity");
        RoverPlanner p = new RoverPlanner();
        p.setRover(3001, 800);
        Due.is("one less than the capacity", 3000, p.rover(3));
        p.setRover(3000, 800);
        Due.is("as much as the capacity", 3000, p.rover(3));
        p.setRover(2999, 800);
        Due.is("one more than the capacity", 2999, p.rover(3));
        p.setRover(100, 800);
        Due.is("the least capacity", 100, p.rover(3));
        p.setRover(20000, 800);
        Due.is("the greatest capacity fills nothing", 100, p.rover(3));
        RoverPlanner q = new RoverPlanner();
        q.setRover(20000, 800);
        for (int day = 0; day < 9; day++) {
            Edge.act(q, SLEEP, 1050, 0);
        }
        q.setRover(10000, 800);
        Due.is("it stays emptied", 10000, q.rover(3));
        Edge.act(q, SLEEP, 1080, 0);
        Due.is("and goes on from there", 9970, q.rover(3));
    }

    private static void moreDataThanMemory() {
        Edge.of(13, "if there are more data than memory");
        RoverPlanner p = new RoverPlanner();
        p.addTarget(0, 0, 1, 1);
        p.addPass(0, 1440, 1);
        Due.is("no data", 4000, p.setRover(4000, 40));
        Edge.act(p, IMAGE, 0, 1);
        Due.is("40 of 40", 4000, p.setRover(4000, 40));
        p.setRover(4000, 80);
        Edge.act(p, IMAGE, 0, 1);
        Due.state("80 of 79", () -> p.setRover(4000, 79));
        Due.state("80 of 40", () -> p.setRover(4000, 40));
        Due.state("80 of 79, of a capacity that would empty the battery", () -> p.setRover(100, 79));
        Due.is("the battery is as it was", 3000 - 60, p.rover(3));
        Due.is("80 of 80", 4000, p.setRover(4000, 80));
        Edge.act(p, SEND, 1, 0);
        Due.state("79 of 78", () -> p.setRover(4000, 78));
        Due.is("79 of 79", 4000, p.setRover(4000, 79));
        Edge.act(p, SEND, 39, 0);
        Due.is("40 of 40 again", 4000, p.setRover(4000, 40));
        Due.is("no room for one more", 4, Edge.act(p, IMAGE, 0, 1));
        p.setRover(4000, 79);
        Due.is("no room for one more in 79", 4, Edge.act(p, IMAGE, 0, 1));
        p.setRover(4000, 80);
        Due.is("room for one more in 80", 0, Edge.act(p, IMAGE, 0, 1));
    }

    // ---- promise 14

    private static void roverAsked() {
        Edge.of(14, "if what is not 0 to 9");
        RoverPlanner p = new RoverPlanner();
        Due.is("0", 0, p.rover(0));
        Due.is("9", 0, p.rover(9));
        Due.outside("-1", () -> p.rover(-1));
        Due.outside("10", () -> p.rover(10));
        for (int far : Edge.FAR) {
            Due.outside("" + far, () -> p.rover(far));
        }
    }

    private static void roverAtItsEnds() {
        Edge.of(14, "0 the time, 1 x, 2 y, 3 the battery, 4 the temperature, 5 1 if the heater is on, else 0, 6 the clearness, 7 the units of data kept, 8 the number of pieces kept, 9 the units that were sent, all together");
        RoverPlanner p = new RoverPlanner();
        p.addTarget(0, 0, 1, 1);
        p.addPass(0, 1440, 1);
        Edge.act(p, HEAT, 1, 0);
        Due.is("heater on", "0 0 0 3000 -20 1 100 0 0 0", Edge.rover(p));
        Edge.act(p, IMAGE, 0, 1);
        // 8 a minute; from -20 on it is 1 warmer each minute, as long as it is below -10
        Due.is("an image", "6 0 0 2952 -14 1 100 40 1 0", Edge.rover(p));
        Edge.act(p, SEND, 39, 0);
        Due.is("one unit is left", "45 0 0 2601 -10 1 100 1 1 39", Edge.rover(p));
        Edge.act(p, SEND, 1, 0);
        Due.is("no unit is left", "46 0 0 2592 -10 1 100 0 0 40", Edge.rover(p));
        Edge.act(p, HEAT, 0, 0);
        Edge.act(p, SLEEP, 0, 0);
        Due.is("the next day: the heater is off", 0, p.rover(5));
        Due.is("the next day: time", 1440, p.rover(0));
        Due.is("the next day: temperature", -51, p.rover(4));
        RoverPlanner q = Edge.late(0);
        Due.is("the end: time", 14400, q.rover(0));
        Due.is("the end: clearness", 90, q.rover(6));
        RoverPlanner r = new RoverPlanner();
        Edge.act(r, DRIVE, 23, 0);
        Due.is("the greatest x", "92 23 0 2448 -31 0 100 0 0 0", Edge.rover(r));
        RoverPlanner s = new RoverPlanner();
        Edge.act(s, DRIVE, 0, 23);
        Due.is("the greatest y", "92 0 23 2448 -31 0 100 0 0 0", Edge.rover(s));
    }

    // ---- promise 15

    private static void pieceAsked() {
        Edge.of(15, "if there is no such piece, or what is not 0 to 3");
        RoverPlanner p = new RoverPlanner();
        p.addTarget(0, 0, 1, 1);
        p.addPass(0, 1440, 20);
        Due.outside("the first of none", () -> p.piece(0, 0));
        Edge.act(p, IMAGE, 0, 9);
        Edge.act(p, IMAGE, 0, 1);
        Due.is("the last piece", 1, p.piece(1, 2));
        Due.is("the last what", 8, p.piece(1, 3));
        Due.outside("piece -1", () -> p.piece(-1, 0));
        Due.outside("piece 2 of 2", () -> p.piece(2, 0));
        Due.outside("what -1", () -> p.piece(0, -1));
        Due.outside("what 4", () -> p.piece(0, 4));
        for (int far : Edge.FAR) {
            Due.outside("piece " + far, () -> p.piece(far, 0));
            Due.outside("what " + far, () -> p.piece(0, far));
        }
        Edge.act(p, SEND, 2, 0);
        Due.is("what is left", "0 40 1 8, ", Edge.pieces(p));
        Due.outside("piece 1 of 1", () -> p.piece(1, 0));
        Edge.act(p, SEND, 2, 0);
        Due.outside("the first of none that are left", () -> p.piece(0, 0));
        Due.outside("the first of none that are left, what 4", () -> p.piece(0, 4));
    }

    private static void piecesInOrder() {
        Edge.of(15, "a piece that is kept, from 0 in the order in which they came");
        RoverPlanner p = new RoverPlanner();
        p.addTarget(0, 0, 1, 1);
        p.addTarget(1, 0, 1, 1);
        p.addPass(0, 1440, 20);
        Edge.act(p, HEAT, 1, 0);
        Edge.act(p, IMAGE, 1, 3);
        Edge.act(p, IMAGE, 0, 9);
        Edge.act(p, TOUCH, 1, 5);
        Edge.act(p, IMAGE, 1, 4);
        Due.is("four pieces", "1 40 3 4, 0 40 9 8, 1 90 5 9, 1 40 4 4, ", Edge.pieces(p));
        Edge.act(p, SEND, 2, 0);
        Due.is("without the second one", "1 40 3 4, 1 90 5 9, 1 40 4 4, ", Edge.pieces(p));
        Edge.act(p, SEND, 4, 0);
        Due.is("10 are left of the touch", "1 40 3 4, 1 10 5 9, 1 40 4 4, ", Edge.pieces(p));
        Edge.act(p, IMAGE, 0, 5);
        Due.is("a new one comes last", "1 40 3 4, 1 10 5 9, 1 40 4 4, 0 40 5 8, ", Edge.pieces(p));
        Edge.act(p, SEND, 1, 0);
        Due.is("the touch is sent, and 10 of the new one", "1 40 3 4, 1 40 4 4, 0 30 5 8, ", Edge.pieces(p));
        Edge.of(15, "3 its octant; 9 for a touch");
        Edge.act(p, TOUCH, 0, 1);
        Due.is("a touch where the target is", 9, p.piece(3, 3));
    }

    // ---- promise 16

    private static void scores() {
        Edge.of(16, "Returns the sum of the values of all targets that are done.");
        Due.is("of no target", 0, new RoverPlanner().score());
        RoverPlanner p = new RoverPlanner();
        p.addPass(0, 1440, 20);
        for (int i = 0; i < 12; i++) {
            p.addTarget(0, 0, 100, 1);
        }
        for (int i = 0; i < 12; i++) {
            Edge.act(p, IMAGE, i, 5);
        }
        Due.is("of 12 that are kept", 0, p.score());
        Edge.act(p, SEND, 1, 0);
        Due.is("of one that is sent in part", 0, p.score());
        Edge.act(p, SEND, 1, 0);
        Due.is("of the first one", 100, p.score());
        Edge.act(p, SEND, 21, 0);
        Due.is("of all but one", 1100, p.score());
        Edge.act(p, SEND, 1, 0);
        Due.is("of all", 1200, p.score());
        p.mark();
        Due.is("none is counted twice", 0, Edge.act(p, IMAGE, 0, 5) + Edge.act(p, SEND, 2, 0));
        Due.is("of all, still", 1200, p.score());
    }
}
