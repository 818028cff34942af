/** What is seen only where there is much of it: long ways, wide searches, many pieces, many turns. Compared with Model, too. */
public final class MuchTest implements Kinds {
    private final RoverPlanner p = new RoverPlanner();
    private final Model m = new Model();

    private MuchTest(String heading) {
        Due.heading(heading + ": ");
    }

    public static void main(String[] args) {
        new MuchTest("promises 6 and 25, a way of 298 steps").longDrive();
        new MuchTest("promise 6, a wide search up").wideSearch(true);
        new MuchTest("promise 6, a wide search down").wideSearch(false);
        new MuchTest("promises 15, 25 and 29, 124 pieces").manyPieces();
        new MuchTest("promise 25, nine pieces sent in one minute").manySent();
        new MuchTest("promise 26, 25 turns").manyTurns();
        Due.heading("");
        Due.end("MuchTest");
    }

    private void raise(int x0, int x1, int y0, int y1, int by) {
        Due.is("raise", m.raise(x0, x1, y0, y1, by), p.raise(x0, x1, y0, y1, by));
    }

    private void pave(int x0, int x1, int y0, int y1, int rough, boolean isHazard) {
        Due.is("pave", m.pave(x0, x1, y0, y1, rough, isHazard), p.pave(x0, x1, y0, y1, rough, isHazard));
    }

    private void target(int x, int y, int value, int need) {
        Due.is("addTarget", m.addTarget(x, y, value, need), p.addTarget(x, y, value, need));
    }

    private void pass(int rate) {
        Due.is("addPass", m.addPass(0, 1440, rate), p.addPass(0, 1440, rate));
    }

    private void rover(int capacity, int memory) {
        Due.is("setRover", m.setRover(capacity, memory), p.setRover(capacity, memory));
    }

    private void put(int kind, int a, int b) {
        Due.is("put " + kind + " " + a + " " + b, m.put(m.count(2), kind, a, b), p.put(p.count(2), kind, a, b));
    }

    /** The whole plan, which has to be done. */
    private void run() {
        int due = p.count(2);
        Due.is("foretell", m.foretell(due, 3), p.foretell(due, 3));
        Due.is("run", due, p.run(40));
        Due.is("run of the model", due, m.run(40));
        same();
    }

    private void same() {
        Due.is("digest", m.digest(), p.digest());
        Due.is("sent", m.sent(), p.sent());
    }

    /** Two midnights go by on this way. */
    private void longDrive() {
        pave(0, 23, 0, 23, 1, false);
        for (int y = 1; y <= 21; y += 2) {
            int first = y % 4 == 1 ? 0 : 1;
            pave(first, first + 22, y, y, 1, true);
        }
        int[] due = {1788, 7152, 298, 0};
        for (int what = 0; what <= 3; what++) {
            Due.is("way " + what, due[what], p.way(0, 0, 0, 22, what));
            Due.is("way of the model " + what, due[what], m.way(0, 0, 0, 22, what));
        }
        rover(20000, 800);
        for (int day = 0; day < 6; day++) {
            put(SLEEP, 0, 0);
        }
        put(SLEEP, 1400, 0);
        put(HEAT, 1, 0);
        put(WAIT, 1439, 0);
        put(HEAT, 0, 0);
        run();
        Due.is("the time ahead of the drive", 7 * 1440 - 1, p.rover(0));
        Due.is("the clearness ahead of the drive", 94, p.rover(6));
        put(DRIVE, 0, 22);
        run();
        Due.is("the time", 7 * 1440 - 1 + 1788, p.rover(0));
        Due.is("x", 0, p.rover(1));
        Due.is("y", 22, p.rover(2));
        Due.is("the clearness", 92, p.rover(6));
        put(DRIVE, 0, 0);
        run();
        Due.is("the time, back again", 7 * 1440 - 1 + 2 * 1788, p.rover(0));
        put(DRIVE, 0, 22);
        Due.is("once more is too much", 0, p.check());
        Due.is("run", m.run(1), p.run(1));
        Due.is("the rover stays where it is", "13655 0 0", p.rover(0) + " " + p.rover(1) + " " + p.rover(2));
        same();
    }

    /** Cheap lines between much that is dear: a search has most places open at once here. */
    private void wideSearch(boolean isUp) {
        p.setSlope(99);
        m.setSlope(99);
        raise(0, 23, 0, 23, isUp ? 99 : 0);
        int by = isUp ? -99 : 99;
        raise(12, 12, 0, 23, by);
        for (int y = 0; y <= 23; y += 3) {
            raise(0, 11, y, y, by);
            raise(13, 23, y, y, by);
        }
        for (int place = 0; place < 576; place += 7) {
            int x = place % 24;
            int y = place / 24;
            Due.is("minutes from " + x + " " + y, m.way(x, y, 12, 12, 0), p.way(x, y, 12, 12, 0));
            Due.is("energy from " + x + " " + y, m.way(x, y, 12, 12, 1), p.way(x, y, 12, 12, 1));
            Due.is("minutes to " + x + " " + y, m.way(12, 12, x, y, 0), p.way(12, 12, x, y, 0));
        }
    }

    private void manyPieces() {
        rover(20000, 5000);
        pass(20);
        target(0, 0, 5, 1);
        target(1, 0, 7, 1);
        target(0, 1, 9, 1);
        for (int part = 0; part < 4; part++) {
            for (int i = 31 * part; i < 31 * part + 31; i++) {
                put(IMAGE, i == 105 ? 1 : i == 120 ? 2 : 0, i == 120 ? 9 : 1 + i % 4);
            }
            run();
        }
        Due.is("pieces", 124, p.rover(8));
        Due.is("octants of the target 1, of which there is one late piece", 1, p.target(1, 3));
        Due.is("what the target 2 needs next", -1, p.nearest(2));
        Due.is("mark", m.mark(), p.mark());
        put(SEND, 1, 0);
        run();
        Due.is("half of the piece 120 is sent", 20, p.piece(120, 1));
        put(SEND, 1, 0);
        run();
        Due.is("its rest is sent, and the next one is the piece 120: target", 0, p.piece(120, 0));
        Due.is("its priority", 2, p.piece(120, 2));
        put(SEND, 40, 0);
        run();
        Due.is("the target 2 is done", 1, p.target(2, 5));
        Due.is("back", m.back(0), p.back(0));
        same();
        Due.is("the piece 120 is whole again", 40, p.piece(120, 1));
        // it fails behind some minutes in which much is sent
        rover(100, 5000);
        put(SEND, 600, 0);
        Due.is("SEND fails", 2, p.reason());
        Due.is("run", m.run(1), p.run(1));
        same();
        Due.is("and sends nothing", 40, p.piece(120, 1));
    }

    private void manySent() {
        rover(4000, 800);
        pass(13);
        for (int i = 0; i < 10; i++) {
            target(i % 5, i / 5, 10 + i, 1);
        }
        for (int i = 0; i < 9; i++) {
            put(IMAGE, i, i + 1);
            put(SEND, 3, 0);
        }
        put(IMAGE, 9, 1);
        run();
        Due.is("pieces", 10, p.rover(8));
        Due.is("units", 49, p.rover(7));
        Due.is("nothing is sent as a whole", 0, p.score());
        put(SEND, 1, 0);
        run();
        Due.is("nine are sent, and 4 units of the last one", "9 36 1 5, ", Edge.pieces(p));
        Due.is("score", 10 + 11 + 12 + 13 + 14 + 15 + 16 + 17 + 18, p.score());
    }

    /** Five targets fail, then twenty visits are made. */
    private void manyTurns() {
        for (int i = 0; i < 5; i++) {
            target(0, 0, 100, 4);
        }
        for (int i = 0; i < 7; i++) {
            target(1, 1, 100, 3);
        }
        put(SLEEP, 540, 0);
        run();
        rover(100, 800);
        put(CLEAN, 0, 0);
        put(CLEAN, 0, 0);
        run();
        put(TOUCH, 0, 5);
        Due.is("a touch fails", 2, p.reason());
        p.remove(0);
        m.remove(0);
        Due.is("make of the model", 40, m.make(400));
        Due.is("make", 40, p.make(400));
        for (int place = 1; place < 40; place += 2) {
            Due.is("the kind at " + place, IMAGE, p.activity(place, 0));
            Due.is("the target at " + place, m.activity(place, 1), p.activity(place, 1));
        }
        same();
        run();
    }
}
