/** The boundary cases of promises 22 to 25, and of what activities do, sentence by sentence. */
public final class DoingEdgesTest implements Kinds {
    public static void main(String[] args) {
        checkPlaces();
        checkUpToTheFirst();
        reasons();
        reasonsLookedAtInOrder();
        foretellAsked();
        foretellUpToWhatFails();
        runLimits();
        runUpToWhatFails();
        minuteOfTheDay();
        batteryFull();
        batteryEmpty();
        temperatures();
        midnight();
        endOfTime();
        endOfTimeComesFirst();
        drives();
        drivesInTheCold();
        imagesInReach();
        octants();
        imagesInTheCold();
        imagesInTheMemory();
        touches();
        sendsAtOnce();
        sendsMinutes();
        sendsPieces();
        waits();
        heats();
        cleans();
        failsAsAWhole();
        Edge.end("DoingEdgesTest", 22, 25);
    }

    private static RoverPlanner withCapacity(int capacity) {
        RoverPlanner p = new RoverPlanner();
        p.setRover(capacity, 800);
        p.addTarget(0, 0, 1, 1);
        p.addPass(0, 1440, 1);
        return p;
    }

    // ---- promise 22

    private static void checkPlaces() {
        Edge.of(22, "Returns the place of the first activity that fails, when the plan is checked; -1 if none does.");
        RoverPlanner p = new RoverPlanner();
        Due.is("no plan", -1, p.check());
        for (int i = 0; i < 39; i++) {
            p.put(i, HEAT, 1, 0);
        }
        p.put(39, HEAT, 0, 0);
        Due.is("none of 40 fails", -1, p.check());
        p.remove(39);
        p.put(39, SEND, 1, 0);
        Due.is("the last of 40 fails", 39, p.check());
        p.move(39, 0);
        Due.is("the first of 40 fails", 0, p.check());
        p.move(0, 20);
        Due.is("the one at 20 fails", 20, p.check());
    }

    private static void checkUpToTheFirst() {
        Edge.of(22, "To check the plan is to do its activities one after the other, on a copy of the rover and its data, up to the first one that fails.");
        RoverPlanner p = withCapacity(4000);
        p.put(0, IMAGE, 0, 5);
        p.put(1, SEND, 3, 0);
        p.put(2, DRIVE, 3, 0);
        p.put(3, CLEAN, 0, 0);
        p.put(4, HEAT, 1, 0);
        String rover = Edge.rover(p);
        long digest = p.digest();
        Due.is("check", -1, p.check());
        Due.is("reason", 0, p.reason());
        Due.is("foretell", 3, p.foretell(5, 1));
        Due.is("it is a copy", rover, Edge.rover(p));
        Due.is("the digest is as it was", digest, p.digest());
        Due.is("sent is as it was", 1.0, p.sent());
        Due.is("each time again", -1, p.check());
        RoverPlanner q = withCapacity(4000);
        q.addTarget(23, 23, 1, 1);
        q.put(0, IMAGE, 1, 1);
        q.put(1, TOUCH, 1, 1);
        Due.is("two that fail: the first", 0, q.check());
        q.remove(0);
        Due.is("the second one alone", 0, q.check());
        q.put(0, DRIVE, 23, 22);
        Due.is("what an earlier one does counts", -1, q.check());
    }

    // ---- promise 23

    private static void reasons() {
        Edge.of(23, "Returns the reason with which this one fails; 0 if none does.");
        Due.is("no plan", 0, new RoverPlanner().reason());
        RoverPlanner p = withCapacity(100);
        p.addTarget(7, 7, 1, 1);
        p.pave(3, 3, 3, 3, 0, true);
        int[][] due = {{HEAT, 0, 0, 0}, {DRIVE, 3, 3, 1}, {DRIVE, 23, 23, 2}, {WAIT, 0, 0, 2}, {IMAGE, 1, 1, 5}, {TOUCH, 1, 1, 5}};
        for (int[] d : due) {
            p.put(0, d[0], d[1], d[2]);
            Due.is("of " + d[0] + " " + d[1] + " " + d[2], d[3], p.reason());
            p.remove(0);
        }
        Due.is("no plan any more", 0, p.reason());
        p.put(0, IMAGE, 1, 1);
        p.put(1, DRIVE, 3, 3);
        Due.is("of the first of two", 5, p.reason());
        p.move(1, 0);
        Due.is("of the other one", 1, p.reason());
        Due.is("asked again", 1, p.reason());
        Due.is("run to it", 0, p.run(40));
        Due.is("still", 1, p.reason());
        Due.is("make does not change it", 0, p.make(2880));
        Due.is("still, behind make", 1, p.reason());
        p.remove(0);
        p.remove(0);
        p.put(0, HEAT, 1, 0);
        Due.is("0 where none fails", 0, p.reason());
    }

    private static void reasonsLookedAtInOrder() {
        Edge.of(23, "fails at once with the reason 5, if the target is not seen from here, or its distance is greater than 6; with the reason 3, if the temperature is less than -40; with the reason 4, if there is no room for 40 units of data");
        for (int kind = IMAGE; kind <= TOUCH; kind++) {
            RoverPlanner p = new RoverPlanner();
            p.addTarget(0, 0, 1, 1);
            p.addTarget(7, 0, 1, 1);
            p.setRover(100, 40);
            Edge.act(p, IMAGE, 0, 1);
            // -26 behind the image; asleep -28, -30, -32, and then 1 less each minute
            Edge.act(p, SLEEP, 17, 0);
            Due.is("temperature", -40, p.rover(4));
            Due.is("5 ahead of 4", 5, Edge.act(p, kind, 1, 1));
            Due.is("4", 4, Edge.act(p, kind, 0, 1));
            Edge.act(p, SLEEP, 18, 0);
            Due.is("temperature then", -41, p.rover(4));
            Due.is("5 ahead of 3 and 4", 5, Edge.act(p, kind, 1, 1));
            Due.is("3 ahead of 4", 3, Edge.act(p, kind, 0, 1));
            // 70 behind the image, and 12 less: 58
            Edge.act(p, SLEEP, 76, 0);
            Due.is("battery", 0, p.rover(3));
            Due.is("3 ahead of 2", 3, Edge.act(p, kind, 0, 1));
        }
        RoverPlanner q = new RoverPlanner();
        q.addTarget(0, 0, 1, 1);
        q.setRover(100, 40);
        Edge.act(q, IMAGE, 0, 1);
        Edge.act(q, WAIT, 41, 0);
        Due.is("battery of the other one", 0, q.rover(3));
        Due.is("4 ahead of 2", 4, Edge.act(q, IMAGE, 0, 1));
        Edge.of(23, "It fails at once with the reason 1, if there is no way; at the beginning of each step with the reason 3, if the temperature is less than -50.");
        RoverPlanner r = new RoverPlanner();
        r.setRover(100, 40);
        r.pave(5, 5, 5, 5, 0, true);
        Edge.act(r, SLEEP, 100, 0);
        Due.is("battery and temperature", "100 0 0 0 -51 0 100 0 0 0", Edge.rover(r));
        Due.is("1 ahead of 3 and 2", 1, Edge.act(r, DRIVE, 5, 5));
        Due.is("3 ahead of 2", 3, Edge.act(r, DRIVE, 1, 0));
        Due.is("6 ahead of 2", 6, Edge.act(r, SEND, 1, 0));
    }

    // ---- promise 24

    private static void foretellAsked() {
        Edge.of(24, "if what is not 0 to 9");
        RoverPlanner p = new RoverPlanner();
        p.put(0, WAIT, 10, 0);
        p.put(1, WAIT, 30, 0);
        Due.outside("-1", () -> p.foretell(0, -1));
        Due.outside("10", () -> p.foretell(0, 10));
        for (int far : Edge.FAR) {
            Due.outside("" + far, () -> p.foretell(0, far));
        }
        Due.is("the last what", 0, p.foretell(2, 9));
        Edge.of(24, "if many is not 0 to the number of activities");
        Due.argument("-1", () -> p.foretell(-1, 0));
        Due.argument("3 of 2", () -> p.foretell(3, 0));
        for (int far : Edge.FAR) {
            Due.argument("" + far, () -> p.foretell(far, 0));
        }
        Due.argument("1 of none", () -> new RoverPlanner().foretell(1, 0));
        Due.is("0 of none", 3000, new RoverPlanner().foretell(0, 3));
        Due.is("0 of 2", 0, p.foretell(0, 0));
        Due.is("1 of 2", 10, p.foretell(1, 0));
        Due.is("2 of 2", 30, p.foretell(2, 0));
        RoverPlanner full = new RoverPlanner();
        for (int i = 1; i <= 40; i++) {
            full.put(i - 1, WAIT, i, 0);
        }
        Due.is("40 of 40", 40, full.foretell(40, 0));
        Due.is("39 of 40", 39, full.foretell(39, 0));
        Due.argument("41 of 40", () -> full.foretell(41, 0));
    }

    private static void foretellUpToWhatFails() {
        Edge.of(24, "if one of these fails");
        RoverPlanner p = new RoverPlanner();
        p.put(0, WAIT, 10, 0);
        p.put(1, SEND, 1, 0);
        p.put(2, WAIT, 30, 0);
        Due.is("0, ahead of what fails", 0, p.foretell(0, 0));
        Due.is("1, ahead of what fails", 10, p.foretell(1, 0));
        Due.state("2, with what fails", () -> p.foretell(2, 0));
        Due.state("3, with one behind it", () -> p.foretell(3, 0));
        p.move(1, 0);
        Due.is("0 where the first one fails", 3000, p.foretell(0, 3));
        Due.state("1 where the first one fails", () -> p.foretell(1, 3));
        Edge.of(24, "Foretells the rover, as it would be behind some activities of the plan.");
        RoverPlanner q = withCapacity(4000);
        q.put(0, HEAT, 1, 0);
        q.put(1, IMAGE, 0, 9);
        q.put(2, SEND, 39, 0);
        q.put(3, SEND, 2, 0);
        StringBuilder told = new StringBuilder();
        for (int what = 0; what <= 9; what++) {
            told.append(q.foretell(3, what)).append(' ');
        }
        Due.is("behind three", "45 0 0 2601 -10 1 100 1 1 39", told.toString().trim());
        Due.is("behind four: the last SEND takes one minute", 46, q.foretell(4, 0));
        Due.is("nothing is done", "0 0 0 3000 -20 0 100 0 0 0", Edge.rover(q));
    }

    // ---- promise 25

    private static void runLimits() {
        Edge.of(25, "if most is not 1 to 40");
        RoverPlanner p = new RoverPlanner();
        for (int i = 1; i <= 40; i++) {
            p.put(i - 1, WAIT, i, 0);
        }
        Due.argument("0", () -> p.run(0));
        Due.argument("-1", () -> p.run(-1));
        Due.argument("41", () -> p.run(41));
        for (int far : Edge.FAR) {
            Due.argument("" + far, () -> p.run(far));
        }
        Due.argument("0 of no plan", () -> new RoverPlanner().run(0));
        Due.argument("41 of no plan", () -> new RoverPlanner().run(41));
        Due.is("nothing is done", 0, p.rover(0));
        Due.is("1 of 40", 1, p.run(1));
        Due.is("time", 1, p.rover(0));
        Due.is("39 are left", 39, p.count(2));
        Due.is("39 of 39, and no more", 39, p.run(40));
        Due.is("time then", 40, p.rover(0));
        Due.is("none is left", 0, p.count(2));
        Due.is("none of none", 0, p.run(1));
        RoverPlanner q = new RoverPlanner();
        for (int i = 1; i <= 40; i++) {
            q.put(i - 1, WAIT, i, 0);
        }
        Due.is("39 of 40", 39, q.run(39));
        Due.is("the last one is left", 40, q.activity(0, 1));
        Due.is("1 of 1", 1, q.run(40));
        RoverPlanner r = new RoverPlanner();
        for (int i = 1; i <= 40; i++) {
            r.put(i - 1, WAIT, i, 0);
        }
        Due.is("40 of 40", 40, r.run(40));
        Due.is("none is left of 40", 0, r.count(2));
    }

    private static void runUpToWhatFails() {
        Edge.of(25, "It ends at the first one that fails, which stays.");
        RoverPlanner p = new RoverPlanner();
        p.put(0, WAIT, 10, 0);
        p.put(1, SEND, 1, 0);
        p.put(2, WAIT, 30, 0);
        Due.is("to the one that fails", 1, p.run(40));
        Due.is("it stays, and what is behind it", "3 1 0, 4 30 0, ", Edge.plan(p));
        Due.is("time", 10, p.rover(0));
        Due.is("from the one that fails", 0, p.run(40));
        Due.is("from the one that fails, 1", 0, p.run(1));
        Due.is("time as it was", 10, p.rover(0));
        p.remove(0);
        Due.is("without it", 1, p.run(1));
        Due.is("time then", 30, p.rover(0));
        Edge.of(25, "how many at most");
        RoverPlanner q = new RoverPlanner();
        q.put(0, WAIT, 10, 0);
        q.put(1, SEND, 1, 0);
        Due.is("1, ahead of the one that fails", 1, q.run(1));
        Due.is("2, with it alone", 0, q.run(2));
    }

    // ---- 2. The rover

    private static void minuteOfTheDay() {
        Edge.of(25, "The minute of the day is the time modulo 1440.");
        RoverPlanner p = new RoverPlanner();
        Edge.act(p, SLEEP, 1439, 0);
        Due.is("minute 1439", 1439, p.rover(0));
        Edge.act(p, WAIT, 0, 0);
        Due.is("minute 0 of the next day", 1440, p.rover(0));
        int battery = p.rover(3);
        Edge.act(p, SLEEP, 360, 0);
        Due.is("no light up to its minute 360", battery - 360, p.rover(3));
        Edge.act(p, SLEEP, 405, 0);
        // clearness 99: 36 * 99 / 3600 is 0, and from 37 on it is 1
        Due.is("the first light of the next day", battery - 405 + 8, p.rover(3));
        RoverPlanner q = new RoverPlanner();
        Edge.act(q, SLEEP, 1044, 0);
        int before = q.rover(3);
        Edge.act(q, SLEEP, 1046, 0);
        Due.is("the last light of a day", before - 2 + 1, q.rover(3));
    }

    private static void batteryFull() {
        Edge.of(25, "but it is not fuller than its capacity");
        RoverPlanner p = new RoverPlanner();
        Edge.act(p, SLEEP, 720, 0);
        p.setRover(1000, 800);
        Edge.act(p, WAIT, 721, 0);
        Due.is("full", 1000, p.rover(3));
        // at 721 .. 735 the sun gives 9, what is used is 8
        Edge.act(p, CLEAN, 0, 0);
        Due.is("full: what is used is looked at together with what comes", 1000, p.rover(3));
        p.setRover(1002, 800);
        Edge.act(p, WAIT, 737, 0);
        Due.is("just full", 1002, p.rover(3));
        p.setRover(1020, 800);
        Edge.act(p, WAIT, 738, 0);
        Due.is("7 more", 1009, p.rover(3));
        Edge.act(p, WAIT, 739, 0);
        Due.is("14 more", 1016, p.rover(3));
        Edge.act(p, WAIT, 740, 0);
        Due.is("and no more than the capacity", 1020, p.rover(3));
    }

    private static void batteryEmpty() {
        Edge.of(25, "Something fails with the reason 2, if the battery would be less than 0 behind a minute");
        Due.is("WAIT: 50 of 100 minutes", 0, Edge.act(withCapacity(100), WAIT, 50, 0));
        Due.is("WAIT: one more", 2, Edge.act(withCapacity(100), WAIT, 51, 0));
        Due.is("SLEEP: 100 minutes", 0, Edge.act(withCapacity(100), SLEEP, 100, 0));
        Due.is("SLEEP: one more", 2, Edge.act(withCapacity(100), SLEEP, 101, 0));
        Due.is("CLEAN: 15 times 8", 0, Edge.act(withCapacity(120), CLEAN, 0, 0));
        Due.is("CLEAN: one less", 2, Edge.act(withCapacity(119), CLEAN, 0, 0));
        Due.is("TOUCH: 25 times 7", 0, Edge.act(withCapacity(175), TOUCH, 0, 1));
        Due.is("TOUCH: one less", 2, Edge.act(withCapacity(174), TOUCH, 0, 1));
        for (int less = 0; less <= 1; less++) {
            RoverPlanner heated = withCapacity(100);
            Edge.act(heated, HEAT, 1, 0);
            Due.is("WAIT, the heater is on: 20 + " + less, 2 * less, Edge.act(heated, WAIT, 20 + less, 0));
            RoverPlanner warm = withCapacity(100);
            Edge.act(warm, HEAT, 1, 0);
            Due.is("SLEEP, the heater is on: 25 + " + less, 2 * less, Edge.act(warm, SLEEP, 25 + less, 0));
            // 35 minutes awake, and one asleep ahead of them
            RoverPlanner image = withCapacity(100);
            if (less == 1) {
                Edge.act(image, SLEEP, 1, 0);
            }
            Edge.act(image, WAIT, 35 + less, 0);
            Due.is("battery ahead of IMAGE", 30 - less, image.rover(3));
            Due.is("IMAGE: 6 times 5, less " + less, 2 * less, Edge.act(image, IMAGE, 0, 1));
        }
        // 70 behind an image
        for (int less = 0; less <= 1; less++) {
            RoverPlanner send = withCapacity(100);
            Edge.act(send, IMAGE, 0, 1);
            Edge.act(send, SLEEP, 6 + 4 + less, 0);
            Due.is("battery ahead of SEND", 66 - less, send.rover(3));
            Due.is("SEND: 11 times 6, less " + less, 2 * less, Edge.act(send, SEND, 11, 0));
        }
        // 13 minutes: 26, and 4 * 13, and 22
        for (int less = 0; less <= 1; less++) {
            RoverPlanner drive = withCapacity(100);
            drive.raise(1, 23, 0, 23, 11);
            drive.pave(1, 1, 0, 23, 3, false);
            if (less == 1) {
                Edge.act(drive, SLEEP, 1, 0);
            }
            Due.is("DRIVE: 100, less " + less, 2 * less, Edge.act(drive, DRIVE, 1, 0));
            Due.is("battery behind DRIVE", 99 * less, drive.rover(3));
        }
    }

    private static void temperatures() {
        Edge.of(25, "Then the temperature becomes greater by (that of the air, less its own) / 20, and by 2 if the heater is on, and by 1 if it is awake.");
        int[] awake = {-21, -22, -23, -24, -25, -26, -27, -28, -29, -30, -31, -31, -31};
        int[] asleep = {-22, -24, -26, -28, -30, -32, -33, -34, -35, -36, -37, -38, -39};
        int[] warmAwake = {-19, -18, -17, -16, -15, -14, -13, -12, -11, -10, -10, -10, -10};
        int[] warmAsleep = {-20, -20, -20, -20, -20, -20, -20, -20, -20, -20, -20, -20, -20};
        RoverPlanner[] rovers = {new RoverPlanner(), new RoverPlanner(), new RoverPlanner(), new RoverPlanner()};
        Edge.act(rovers[2], HEAT, 1, 0);
        Edge.act(rovers[3], HEAT, 1, 0);
        for (int i = 0; i < awake.length; i++) {
            int[] due = {awake[i], asleep[i], warmAwake[i], warmAsleep[i]};
            for (int k = 0; k < 4; k++) {
                Edge.act(rovers[k], k % 2 == 0 ? WAIT : SLEEP, i + 1, 0);
                Due.is("rover " + k + " in the minute " + i, due[k], rovers[k].rover(4));
            }
        }
        Edge.of(25, "what is said to be divided is cut towards 0");
        Edge.act(rovers[1], SLEEP, 300, 0);
        Due.is("asleep at night: -19 / 20 is 0", -51, rovers[1].rover(4));
        Edge.act(rovers[1], WAIT, 301, 0);
        Due.is("awake: 1 more", -50, rovers[1].rover(4));
        Edge.act(rovers[1], WAIT, 340, 0);
        Due.is("awake at night: -20 / 20 and 1", -50, rovers[1].rover(4));
        Edge.act(rovers[1], SLEEP, 360, 0);
        Due.is("asleep again", -51, rovers[1].rover(4));
        // from -70 on the air is 1 warmer each 6 minutes; -31 less -51 is 20, at the light of 234
        Edge.act(rovers[1], SLEEP, 594, 0);
        Due.is("asleep up to where the air is 20 warmer", -51, rovers[1].rover(4));
        Edge.act(rovers[1], SLEEP, 595, 0);
        Due.is("asleep: 20 / 20 is 1", -50, rovers[1].rover(4));
    }

    private static void midnight() {
        Edge.of(25, "and if the minute of the day is 0 then, the clearness is 1 less");
        RoverPlanner p = new RoverPlanner();
        Edge.act(p, SLEEP, 1439, 0);
        Due.is("one minute ahead", 100, p.rover(6));
        Edge.act(p, SLEEP, 0, 0);
        Due.is("at midnight", 99, p.rover(6));
        Edge.act(p, SLEEP, 1, 0);
        Due.is("one minute behind", 99, p.rover(6));
        Edge.act(p, SLEEP, 1, 0);
        Due.is("a day behind", 98, p.rover(6));
        RoverPlanner q = Edge.late(1);
        Due.is("ahead of the last midnight", 91, q.rover(6));
        Edge.act(q, SLEEP, 0, 0);
        Due.is("the last midnight", 90, q.rover(6));
    }

    private static void lasts(int kind, int a, int minutes) {
        for (int less = 0; less <= 1; less++) {
            RoverPlanner p = Edge.late(minutes - less);
            p.addPass(0, 1440, 1);
            p.addTarget(0, 0, 1, 1);
            String call = "activity " + kind + " " + a + ", minutes left: " + (minutes - less);
            Due.is(call, 7 * less, Edge.act(p, kind, a, kind == IMAGE || kind == TOUCH ? 1 : 0));
            Due.is(call + ": time", less == 0 ? 14400 : 14400 - minutes + 1, p.rover(0));
        }
    }

    private static void endOfTime() {
        Edge.of(25, "with the reason 7, if the time would be greater than 14400");
        Due.is("WAIT for a whole day, which is left", 0, Edge.act(Edge.late(1440), WAIT, 0, 0));
        Due.is("WAIT for a whole day, of which one minute is gone", 7, Edge.act(Edge.late(1439), WAIT, 1, 0));
        Due.is("SLEEP for a whole day, which is left", 0, Edge.act(Edge.late(1440), SLEEP, 0, 0));
        Due.is("SLEEP for a whole day, of which one minute is gone", 7, Edge.act(Edge.late(1439), SLEEP, 1, 0));
        lasts(DRIVE, 1, 4);
        lasts(DRIVE, 3, 12);
        lasts(IMAGE, 0, 6);
        lasts(TOUCH, 0, 25);
        lasts(CLEAN, 0, 15);
        RoverPlanner p = Edge.late(1);
        Due.is("WAIT for one minute more than there is", 7, Edge.act(p, WAIT, 1, 0));
        Due.is("SLEEP for one minute more than there is", 7, Edge.act(p, SLEEP, 1, 0));
        p.mark();
        Due.is("SLEEP for what there is", 0, Edge.act(p, SLEEP, 0, 0));
        p.back(0);
        Due.is("WAIT for what there is", 0, Edge.act(p, WAIT, 0, 0));
        Due.is("time", 14400, p.rover(0));
        RoverPlanner q = Edge.late(50);
        q.addTarget(0, 0, 1, 1);
        q.addPass(0, 1440, 1);
        Edge.act(q, IMAGE, 0, 1);
        Edge.act(q, WAIT, 1430, 0);
        Due.is("SEND 11 in 10 minutes", 7, Edge.act(q, SEND, 11, 0));
        Due.is("nothing is sent", 0, q.rover(9));
        Due.is("SEND 10 in 10 minutes", 0, Edge.act(q, SEND, 10, 0));
        Due.is("10 are sent", 10, q.rover(9));
        Due.is("SEND of what is left at the end", 7, Edge.act(q, SEND, 1, 0));
        RoverPlanner r = Edge.late(50);
        r.addTarget(0, 0, 1, 1);
        r.addPass(0, 1440, 20);
        Edge.act(r, IMAGE, 0, 1);
        Edge.act(r, WAIT, 1438, 0);
        Due.is("SEND 600 of data for 2 minutes", 0, Edge.act(r, SEND, 600, 0));
        Due.is("the end", 14400, r.rover(0));
        Due.is("SEND 600 of no data", 0, Edge.act(r, SEND, 600, 0));
    }

    private static void endOfTimeComesFirst() {
        Edge.of(25, "Time is counted in minutes from 0 on; it ends at 14400.");
        RoverPlanner p = Edge.late(0);
        p.addTarget(0, 0, 1, 1);
        Due.is("time", 14400, p.rover(0));
        Due.is("WAIT", 7, Edge.act(p, WAIT, 1, 0));
        Due.is("SLEEP", 7, Edge.act(p, SLEEP, 1, 0));
        Due.is("DRIVE", 7, Edge.act(p, DRIVE, 1, 0));
        Due.is("CLEAN", 7, Edge.act(p, CLEAN, 0, 0));
        Due.is("IMAGE", 7, Edge.act(p, IMAGE, 0, 1));
        Due.is("TOUCH", 7, Edge.act(p, TOUCH, 0, 1));
        Due.is("SEND without a pass", 6, Edge.act(p, SEND, 1, 0));
        Due.is("HEAT", 0, Edge.act(p, HEAT, 0, 0));
        Due.is("DRIVE to where it is", 0, Edge.act(p, DRIVE, 0, 0));
        Due.is("make", 0, p.make(2880));
        Due.is("the time is as it was", 14400, p.rover(0));
        Edge.of(25, "(this is looked at first)");
        RoverPlanner q = Edge.late(50);
        q.setRover(100, 800);
        Edge.act(q, HEAT, 0, 0);
        Due.is("the battery lasts up to the end", 0, Edge.act(q, WAIT, 0, 0));
        Due.is("and is empty then", 0, q.rover(3));
        Due.is("WAIT", 7, Edge.act(q, WAIT, 1, 0));
        Due.is("SLEEP", 7, Edge.act(q, SLEEP, 1, 0));
        Due.is("DRIVE", 7, Edge.act(q, DRIVE, 1, 0));
        Due.is("CLEAN", 7, Edge.act(q, CLEAN, 0, 0));
    }

    // ---- 3. Activities

    private static void drives() {
        Edge.of(25, "It fails at once with the reason 1, if there is no way");
        RoverPlanner p = new RoverPlanner();
        p.pave(1, 1, 0, 23, 0, true);
        Due.is("behind hazards", 1, Edge.act(p, DRIVE, 2, 0));
        Due.is("into a hazard", 1, Edge.act(p, DRIVE, 1, 0));
        p.pave(1, 1, 23, 23, 0, false);
        Due.is("through the one gap", 0, Edge.act(p, DRIVE, 2, 23));
        Edge.of(25, "If the rover is there already, nothing happens.");
        RoverPlanner q = new RoverPlanner();
        q.setRover(100, 800);
        q.pave(0, 23, 0, 23, 0, true);
        Edge.act(q, SLEEP, 100, 0);
        Due.is("cold, with an empty battery, in a hazard", 0, Edge.act(q, DRIVE, 0, 0));
        Due.is("nothing has happened", "100 0 0 0 -51 0 100 0 0 0", Edge.rover(q));
        Edge.of(25, "The energy of a step is used in its last minute.");
        RoverPlanner r = new RoverPlanner();
        Edge.act(r, SLEEP, 720, 0);
        r.setRover(100, 800);
        Edge.act(r, DRIVE, 1, 0);
        // full up to the last minute: 9 come, 2 and 16 go
        Due.is("one step", 91, r.rover(3));
        Edge.act(r, WAIT, 726, 0);
        Due.is("full again", 100, r.rover(3));
        Edge.act(r, DRIVE, 3, 0);
        // 91 behind the first step; 98 and 100 and 100, and 91 again
        Due.is("two steps", 91, r.rover(3));
    }

    private static void drivesInTheCold() {
        Edge.of(25, "at the beginning of each step with the reason 3, if the temperature is less than -50");
        RoverPlanner p = new RoverPlanner();
        Edge.act(p, SLEEP, 24, 0);
        Due.is("temperature", -50, p.rover(4));
        p.mark();
        Due.is("DRIVE at -50, three steps", 0, Edge.act(p, DRIVE, 3, 3));
        p.back(0);
        Edge.act(p, SLEEP, 25, 0);
        Due.is("temperature then", -51, p.rover(4));
        Due.is("DRIVE at -51", 3, Edge.act(p, DRIVE, 3, 3));
        Due.is("it is where it was", "25 0 0 2975 -51 0 100 0 0 0", Edge.rover(p));
        Due.is("WAIT at -51", 0, Edge.act(p, WAIT, 26, 0));
        Due.is("DRIVE at -50 again", 0, Edge.act(p, DRIVE, 3, 3));
    }

    private static void imagesInReach() {
        Edge.of(25, "fails at once with the reason 5, if the target is not seen from here, or its distance is greater than 6");
        int[][] targets = {{16, 10, 0}, {17, 10, 5}, {10, 16, 0}, {10, 17, 5}, {4, 10, 0}, {3, 10, 5}, {10, 4, 0}, {10, 3, 5}, {16, 16, 0}, {4, 4, 0}, {17, 4, 5}, {10, 10, 0}};
        RoverPlanner p = new RoverPlanner();
        Edge.act(p, HEAT, 1, 0);
        Edge.act(p, DRIVE, 10, 10);
        for (int i = 0; i < targets.length; i++) {
            p.addTarget(targets[i][0], targets[i][1], 1, 1);
            Due.is("IMAGE of " + targets[i][0] + " " + targets[i][1], targets[i][2], Edge.act(p, IMAGE, i, 1));
        }
        RoverPlanner q = new RoverPlanner();
        q.addTarget(2, 0, 1, 1);
        q.raise(1, 1, 0, 0, 2);
        Due.is("over a height of 2", 0, Edge.act(q, IMAGE, 0, 1));
        q.raise(1, 1, 0, 0, 1);
        Due.is("over a height of 3", 5, Edge.act(q, IMAGE, 0, 1));
        RoverPlanner r = new RoverPlanner();
        r.addTarget(2, 0, 1, 1);
        r.raise(0, 0, 0, 0, 10);
        // from above 13 and -13 / 2 are seen over, from below 3 and 7 / 2
        r.raise(1, 1, 0, 0, 7);
        Due.is("the rover would not be seen from the target", false, r.sees(2, 0, 0, 0));
        Due.is("the target is seen from the rover", 0, Edge.act(r, IMAGE, 0, 1));
        r.raise(1, 1, 0, 0, 1);
        Due.is("and over one more it is not", 5, Edge.act(r, IMAGE, 0, 1));
        Edge.of(25, "at their end there is an image of the size 40, from the octant of the rover as seen from the target");
        RoverPlanner s = new RoverPlanner();
        s.addTarget(0, 6, 1, 1);
        Edge.act(s, IMAGE, 0, 9);
        Due.is("a target with a greater y", "0 40 9 6, ", Edge.pieces(s));
        Due.is("6 minutes, each of which uses 3", "6 0 0 2970 -26 0 100 40 1 0", Edge.rover(s));
    }

    private static void octants() {
        Edge.of(25, "The octant of a, as seen from b, is the direction 0 to 7 whose sign in x is that of ax - bx, and in y that of ay - by; 8 if a is b.");
        int[] differences = {-6, -1, 0, 1, 6};
        int[][] due = {{5, 4, 3}, {6, 8, 2}, {7, 0, 1}};
        for (int dx : differences) {
            for (int dy : differences) {
                RoverPlanner p = new RoverPlanner();
                p.addTarget(10, 10, 1, 1);
                Edge.act(p, DRIVE, 10 + dx, 10 + dy);
                Edge.act(p, IMAGE, 0, 1);
                Due.is("from " + dx + " " + dy + " beside it", due[1 + Integer.signum(dx)][1 + Integer.signum(dy)], p.piece(0, 3));
            }
        }
    }

    private static void imagesInTheCold() {
        Edge.of(25, "with the reason 3, if the temperature is less than -40");
        for (int kind = IMAGE; kind <= TOUCH; kind++) {
            RoverPlanner p = new RoverPlanner();
            p.addTarget(0, 0, 1, 1);
            Edge.act(p, SLEEP, 14, 0);
            Due.is("temperature", -40, p.rover(4));
            p.mark();
            Due.is("at -40", 0, Edge.act(p, kind, 0, 1));
            p.back(0);
            Edge.act(p, SLEEP, 15, 0);
            Due.is("temperature then", -41, p.rover(4));
            Due.is("at -41", 3, Edge.act(p, kind, 0, 1));
            Due.is("nothing is kept", 0, p.rover(8));
        }
        // it is looked at once: at -40 a touch of 25 minutes goes on, though it is awake that it does not become colder
        RoverPlanner q = new RoverPlanner();
        q.addTarget(0, 0, 1, 1);
        Edge.act(q, SLEEP, 14, 0);
        Edge.act(q, TOUCH, 0, 1);
        Due.is("awake from -40 on", -40, q.rover(4));
    }

    private static void imagesInTheMemory() {
        Edge.of(25, "with the reason 4, if there is no room for 40 units of data");
        RoverPlanner p = withCapacity(4000);
        p.setRover(4000, 40);
        Due.is("40 of 40", 0, Edge.act(p, IMAGE, 0, 1));
        Due.is("none of 0", 4, Edge.act(p, IMAGE, 0, 1));
        p.setRover(4000, 79);
        Due.is("none of 39", 4, Edge.act(p, IMAGE, 0, 1));
        p.setRover(4000, 80);
        Due.is("40 of 40 again", 0, Edge.act(p, IMAGE, 0, 1));
        Edge.of(25, "what is left of a piece is its size then");
        Edge.act(p, SEND, 39, 0);
        Due.is("none of 39 that are free", 4, Edge.act(p, IMAGE, 0, 1));
        Edge.act(p, SEND, 1, 0);
        Due.is("40 of 40 that are free", 0, Edge.act(p, IMAGE, 0, 1));
        Edge.of(25, "with the reason 4 for 90 units, 25 minutes, each of which uses 5, and a touch of the size 90");
        RoverPlanner q = withCapacity(4000);
        q.setRover(4000, 89);
        Due.is("90 of 89", 4, Edge.act(q, TOUCH, 0, 1));
        q.setRover(4000, 90);
        Due.is("90 of 90", 0, Edge.act(q, TOUCH, 0, 1));
        Due.is("behind it", "25 0 0 2825 -31 0 100 90 1 0", Edge.rover(q));
        q.setRover(4000, 129);
        Due.is("40 of 39", 4, Edge.act(q, IMAGE, 0, 1));
        q.setRover(4000, 130);
        Due.is("40 of 40", 0, Edge.act(q, IMAGE, 0, 1));
    }

    private static void touches() {
        Edge.of(25, "the same, with a distance of at most 1 (and no sight)");
        RoverPlanner p = new RoverPlanner();
        Edge.act(p, HEAT, 1, 0);
        Edge.act(p, DRIVE, 10, 10);
        p.setRover(4000, 5000);
        int number = 0;
        for (int x = 9; x <= 11; x++) {
            for (int y = 9; y <= 11; y++) {
                p.addTarget(x, y, 1, 4);
                Due.is("TOUCH of " + x + " " + y, 0, Edge.act(p, TOUCH, number++, 1));
            }
        }
        int[][] far = {{12, 10}, {10, 8}, {8, 12}};
        for (int[] f : far) {
            p.addTarget(f[0], f[1], 1, 4);
            Due.is("TOUCH of " + f[0] + " " + f[1], 5, Edge.act(p, TOUCH, number++, 1));
        }
        RoverPlanner q = new RoverPlanner();
        q.addTarget(1, 1, 1, 4);
        q.raise(1, 1, 1, 1, 99);
        q.pave(0, 23, 0, 23, 3, true);
        Due.is("TOUCH of a peak that is a hazard", 0, Edge.act(q, TOUCH, 0, 9));
        Due.is("a touch", "0 90 9 9, ", Edge.pieces(q));
    }

    private static void sendsAtOnce() {
        Edge.of(25, "It fails at once with the reason 6, if the rate is 0 then.");
        RoverPlanner p = new RoverPlanner();
        p.addTarget(0, 0, 1, 1);
        p.addPass(100, 102, 5);
        Edge.act(p, IMAGE, 0, 1);
        Edge.act(p, WAIT, 99, 0);
        Due.is("a minute ahead of the pass", 6, Edge.act(p, SEND, 600, 0));
        Edge.act(p, WAIT, 100, 0);
        p.mark();
        Due.is("its first minute", 0, Edge.act(p, SEND, 1, 0));
        Due.is("its last minute", 0, Edge.act(p, SEND, 1, 0));
        Due.is("sent", 10, p.rover(9));
        Due.is("its end", 6, Edge.act(p, SEND, 1, 0));
        p.back(0);
        int battery = p.rover(3);
        Edge.of(25, "In each minute as many units are sent as the rate at its beginning says");
        Due.is("over its end", 0, Edge.act(p, SEND, 5, 0));
        Due.is("time over its end", 105, p.rover(0));
        Due.is("battery over its end", battery - 30, p.rover(3));
        Due.is("sent over its end", 10, p.rover(9));
        RoverPlanner q = new RoverPlanner();
        q.addTarget(0, 0, 1, 1);
        q.addPass(1439, 1440, 3);
        q.addPass(0, 1, 4);
        Edge.act(q, SLEEP, 700, 0);
        Edge.act(q, IMAGE, 0, 1);
        Edge.act(q, SLEEP, 1439, 0);
        Due.is("over midnight", 0, Edge.act(q, SEND, 3, 0));
        Due.is("sent over midnight", 7, q.rover(9));
        Due.is("time over midnight", 1442, q.rover(0));
    }

    private static void sendsMinutes() {
        Edge.of(25, "When there are no data at the beginning of a minute, nothing more happens.");
        RoverPlanner p = new RoverPlanner();
        p.addTarget(0, 0, 1, 1);
        p.addPass(0, 1440, 20);
        Due.is("no data at all", 0, Edge.act(p, SEND, 600, 0));
        Due.is("nothing has happened", "0 0 0 3000 -20 0 100 0 0 0", Edge.rover(p));
        Edge.act(p, IMAGE, 0, 1);
        Due.is("data for 2 minutes", 0, Edge.act(p, SEND, 600, 0));
        Due.is("2 minutes", "8 0 0 2958 -28 0 100 0 0 40", Edge.rover(p));
        RoverPlanner q = new RoverPlanner();
        q.addTarget(0, 0, 1, 1);
        q.addPass(0, 1440, 19);
        Edge.act(q, IMAGE, 0, 1);
        Due.is("data for 2 minutes, and 2 units more", 0, Edge.act(q, SEND, 2, 0));
        Due.is("2 units are left", 2, q.piece(0, 1));
        Due.is("the third minute", 0, Edge.act(q, SEND, 2, 0));
        Due.is("3 minutes", 9, q.rover(0));
        Edge.of(25, "3 SEND n: n minutes, 1 to 600, each of which uses 4.");
        RoverPlanner r = new RoverPlanner();
        r.addTarget(0, 0, 1, 1);
        r.addPass(0, 1440, 1);
        r.setRover(20000, 5000);
        Edge.act(r, HEAT, 1, 0);
        for (int i = 0; i < 16; i++) {
            Edge.act(r, IMAGE, 0, 1);
        }
        Edge.act(r, HEAT, 0, 0);
        for (int day = 0; day < 4; day++) {
            Edge.act(r, SLEEP, 1200, 0);
        }
        int battery = r.rover(3);
        int time = r.rover(0);
        Due.is("SEND 600", 0, Edge.act(r, SEND, 600, 0));
        Due.is("600 minutes", time + 600, r.rover(0));
        Due.is("each uses 6, without a sun", battery - 3600, r.rover(3));
        Due.is("600 units", 600, r.rover(9));
        Due.is("40 are left", "0 40 1 8, ", Edge.pieces(r));
        Due.is("SEND 1", 0, Edge.act(r, SEND, 1, 0));
        Due.is("one minute", time + 601, r.rover(0));
    }

    private static void sendsPieces() {
        Edge.of(25, "a piece of which nothing is left is sent, and what is left of the rate goes to the next one");
        RoverPlanner p = new RoverPlanner();
        p.addTarget(0, 0, 1, 1);
        p.addTarget(1, 0, 1, 1);
        p.addTarget(0, 1, 1, 1);
        p.addPass(0, 1440, 13);
        Edge.act(p, IMAGE, 0, 8);
        Edge.act(p, SEND, 3, 0);
        Edge.act(p, IMAGE, 1, 9);
        Edge.act(p, SEND, 3, 0);
        Due.is("two rests of 1", "0 1 8 8, 1 1 9 4, ", Edge.pieces(p));
        Edge.act(p, IMAGE, 2, 7);
        Edge.act(p, SEND, 1, 0);
        Due.is("both, and 11 of the third one", "2 29 7 6, ", Edge.pieces(p));
        Due.is("both are done", 2, p.score());
        Edge.act(p, SEND, 2, 0);
        Due.is("3 are left", 3, p.piece(0, 1));
        Edge.act(p, SEND, 1, 0);
        Due.is("the rate is greater than what is left", 120, p.rover(9));
        Due.is("nothing is left", 0, p.rover(8));
        Edge.of(25, "from the piece with the greatest priority (9 is the greatest one), of several the first one");
        RoverPlanner q = new RoverPlanner();
        q.addPass(0, 1440, 20);
        int[] priorities = {1, 9, 8, 9, 1};
        for (int i = 0; i < priorities.length; i++) {
            q.addTarget(0, 0, 1, 1);
            Edge.act(q, IMAGE, i, priorities[i]);
        }
        int[] order = {1, 3, 2, 0, 4};
        for (int i = 0; i < order.length; i++) {
            Due.is("not yet sent: " + order[i], 0, q.target(order[i], 5));
            Edge.act(q, SEND, 2, 0);
            Due.is("sent: " + order[i], 1, q.target(order[i], 5));
            Due.is("so many are sent", i + 1, q.score());
        }
    }

    private static void waits() {
        Edge.of(25, "awake, until the minute of the day is m (at least one minute)");
        int[][] due = {{0, 0, 1440}, {0, 1, 1}, {0, 1439, 1439}, {1439, 0, 1}, {1439, 1439, 1440}, {1439, 1438, 1439}, {720, 720, 1440}, {720, 719, 1439}, {720, 721, 1}};
        for (int kind = WAIT; kind <= SLEEP; kind++) {
            for (int[] d : due) {
                RoverPlanner p = new RoverPlanner();
                p.setRover(20000, 800);
                if (d[0] > 0) {
                    Edge.act(p, SLEEP, d[0], 0);
                }
                Due.is("kind " + kind + " at " + d[0] + " until " + d[1], 0, Edge.act(p, kind, d[1], 0));
                Due.is("kind " + kind + " at " + d[0] + " until " + d[1] + ": minutes", d[2], p.rover(0) - d[0]);
            }
        }
        RoverPlanner p = new RoverPlanner();
        Edge.act(p, WAIT, 1, 0);
        Due.is("awake", "1 0 0 2998 -21 0 100 0 0 0", Edge.rover(p));
        RoverPlanner q = new RoverPlanner();
        Edge.act(q, SLEEP, 1, 0);
        Due.is("asleep", "1 0 0 2999 -22 0 100 0 0 0", Edge.rover(q));
        RoverPlanner r = new RoverPlanner();
        for (int day = 1; day <= 3; day++) {
            Edge.act(r, SLEEP, 700, 0);
            Due.is("the same minute on the day " + day, 1440 * day - 740, r.rover(0));
        }
    }

    private static void heats() {
        Edge.of(25, "the heater is on if n is 1, off if it is 0. It takes no time.");
        RoverPlanner p = new RoverPlanner();
        Edge.act(p, HEAT, 0, 0);
        Due.is("off, though it is", "0 0 0 3000 -20 0 100 0 0 0", Edge.rover(p));
        Edge.act(p, HEAT, 1, 0);
        Due.is("on", "0 0 0 3000 -20 1 100 0 0 0", Edge.rover(p));
        Edge.act(p, HEAT, 1, 0);
        Due.is("on, though it is", "0 0 0 3000 -20 1 100 0 0 0", Edge.rover(p));
        Edge.act(p, WAIT, 1, 0);
        Due.is("3 more are used", "1 0 0 2995 -19 1 100 0 0 0", Edge.rover(p));
        Edge.act(p, HEAT, 0, 0);
        Due.is("off", "1 0 0 2995 -19 0 100 0 0 0", Edge.rover(p));
        Edge.act(p, WAIT, 2, 0);
        Due.is("and no more", "2 0 0 2993 -20 0 100 0 0 0", Edge.rover(p));
    }

    private static void cleans() {
        Edge.of(25, "7 CLEAN: 15 minutes, each of which uses 6");
        RoverPlanner clean = new RoverPlanner();
        Due.is("CLEAN", 0, Edge.act(clean, CLEAN, 0, 0));
        Due.is("15 times 8", "15 0 0 2880 -31 0 100 0 0 0", Edge.rover(clean));
        Edge.of(25, "at their end the clearness is 10 more, but at most 100");
        RoverPlanner p = new RoverPlanner();
        Edge.act(p, CLEAN, 0, 0);
        Due.is("100 stays", 100, p.rover(6));
        Edge.act(p, SLEEP, 0, 0);
        Edge.act(p, CLEAN, 0, 0);
        Due.is("99 becomes 100", 100, p.rover(6));
        RoverPlanner q = Edge.late(720);
        Due.is("clearness", 91, q.rover(6));
        Edge.act(q, CLEAN, 0, 0);
        Due.is("91 becomes 100", 100, q.rover(6));
        RoverPlanner r = Edge.late(15);
        Due.is("clearness ahead of midnight", 91, r.rover(6));
        Edge.act(r, CLEAN, 0, 0);
        Due.is("midnight comes ahead of their end: 90 becomes 100", 100, r.rover(6));
        RoverPlanner s = new RoverPlanner();
        Edge.act(s, SLEEP, 1430, 0);
        Edge.act(s, CLEAN, 0, 0);
        Due.is("midnight comes between: 99 becomes 100", 100, s.rover(6));
    }

    /** What fails in its very last minute changes nothing. */
    private static void whole(RoverPlanner p, int kind, int a, int b, int due) {
        String rover = Edge.rover(p);
        String pieces = Edge.pieces(p);
        double sent = p.sent();
        long digest = p.digest();
        Due.is("activity " + kind + " fails", due, Edge.act(p, kind, a, b));
        Due.is("activity " + kind + ": rover", rover, Edge.rover(p));
        Due.is("activity " + kind + ": pieces", pieces, Edge.pieces(p));
        Due.is("activity " + kind + ": sent", sent, p.sent());
        Due.is("activity " + kind + ": digest", digest, p.digest());
    }

    private static void failsAsAWhole() {
        Edge.of(25, "An activity is done as a whole, or fails, and then all is as it was ahead of it.");
        whole(withCapacity(100), DRIVE, 5, 0, 2);
        whole(withCapacity(174), TOUCH, 0, 1, 2);
        whole(withCapacity(100), WAIT, 51, 0, 2);
        whole(withCapacity(100), SLEEP, 101, 0, 2);
        whole(withCapacity(119), CLEAN, 0, 0, 2);
        RoverPlanner image = withCapacity(100);
        Edge.act(image, SLEEP, 1, 0);
        Edge.act(image, WAIT, 36, 0);
        Due.is("battery", 29, image.rover(3));
        whole(image, IMAGE, 0, 1, 2);
        RoverPlanner send = withCapacity(200);
        send.addPass(0, 1440, 20);
        for (int i = 0; i < 4; i++) {
            Edge.act(send, IMAGE, 0, 1 + i);
        }
        // 80 are left: 13 minutes of 6, of which 8 send all
        Due.is("data are sent ahead of the end of the battery", 0, Edge.act(send, SEND, 1, 0));
        Edge.act(send, SLEEP, send.rover(0) + 33, 0);
        Due.is("battery for 6 of 7 minutes", 41, send.rover(3));
        whole(send, SEND, 600, 0, 2);
        Due.is("the pieces are kept", 4, send.rover(8));
        RoverPlanner late = Edge.late(20);
        late.addTarget(0, 0, 1, 1);
        late.addPass(0, 1440, 20);
        Edge.act(late, IMAGE, 0, 5);
        Edge.act(late, IMAGE, 0, 5);
        Edge.act(late, WAIT, 1437, 0);
        whole(late, SEND, 4, 0, 7);
        whole(late, DRIVE, 1, 0, 7);
        whole(late, WAIT, 1, 0, 7);
        Due.is("SEND 3", 0, Edge.act(late, SEND, 3, 0));
        RoverPlanner before = Edge.late(14);
        whole(before, CLEAN, 0, 0, 7);
        Due.is("the clearness is as it was", 91, before.rover(6));
    }
}
