import java.util.function.Consumer;

/** What is refused, of every method: the exception that is thrown, of several the first one, and that nothing has changed. */
public final class RefusedTest {
    private static final Class<?> RANGE = IndexOutOfBoundsException.class;
    private static final Class<?> ARGUMENT = IllegalArgumentException.class;
    private static final Class<?> STATE = IllegalStateException.class;
    private static final String NOTHING = "A method that throws an exception changes nothing.";
    private static final String FIRST = "If several exceptions apply, the one that is named first is thrown.";
    /** Activities that cannot be put, of each kind and of none. */
    private static final int[][] CANNOT = {{-1, 0, 0}, {8, 0, 0}, {0, 24, 0}, {0, 0, -1}, {1, 0, 0}, {1, 99, 1}, {2, -1, 1}, {2, 0, 10}, {3, 0, 0}, {3, 1, 1},
        {4, 1440, 0}, {4, 0, 1}, {5, -1, 0}, {5, 0, -1}, {6, 2, 0}, {6, 0, 1}, {7, 1, 0}, {7, 0, 1}};
    private static final String BUSY = look(busy());
    private static final String FULL = look(full());

    public static void main(String[] args) {
        theGround();
        targetsAndPasses();
        settings();
        asking();
        puts();
        thePlan();
        foretelling();
        marks();
        Due.heading("");
        Due.end("RefusedTest");
    }

    /** In the middle of its work: with ground, targets, passes, data, a plan that fails at its end, and two marks. */
    private static RoverPlanner busy() {
        RoverPlanner p = new RoverPlanner();
        p.raise(3, 6, 2, 9, 7);
        p.raise(4, 4, 4, 4, -30);
        p.pave(5, 9, 0, 3, 2, false);
        p.pave(8, 8, 8, 12, 1, true);
        p.setSlope(15);
        p.addTarget(1, 1, 40, 2);
        p.addTarget(9, 2, 70, 4);
        p.addTarget(2, 6, 15, 1);
        p.addPass(0, 700, 6);
        p.addPass(20, 60, 17);
        p.setRover(3500, 250);
        Edge.act(p, 6, 1, 0);
        Edge.act(p, 1, 0, 4);
        Edge.act(p, 2, 0, 6);
        Edge.act(p, 3, 2, 0);
        p.mark();
        Edge.act(p, 0, 2, 2);
        p.put(0, 4, 80, 0);
        p.put(1, 1, 2, 9);
        p.put(2, 3, 600, 0);
        p.put(3, 0, 8, 8);
        p.mark();
        return p;
    }

    /** With as many targets, passes, activities and marks as there can be; no activity fails. */
    private static RoverPlanner full() {
        RoverPlanner p = new RoverPlanner();
        for (int i = 0; i < 12; i++) {
            p.addTarget(i, 2 * i, 1 + i, 1 + i % 4);
        }
        for (int i = 0; i < 6; i++) {
            p.addPass(100 * i, 100 * i + 150, 3 * i + 1);
        }
        p.setRover(3500, 80);
        Edge.act(p, 1, 0, 4);
        for (int i = 0; i < 40; i++) {
            p.put(i, i % 2 == 0 ? 4 : 6, i % 2 == 0 ? 20 + i : i / 2 % 2, 0);
        }
        for (int i = 0; i < 8; i++) {
            p.mark();
        }
        return p;
    }

    /** What an object answers to some 300 calls, as one text; behind them it is no more what it was. */
    private static String look(RoverPlanner p) {
        StringBuilder told = new StringBuilder();
        told.append(p.digest()).append(' ').append(p.sent()).append(' ').append(p.check()).append(' ').append(p.reason()).append('\n');
        told.append(Edge.rover(p)).append('\n').append(Edge.pieces(p)).append('\n').append(Edge.plan(p)).append('\n');
        for (int target = 0; target < p.count(0); target++) {
            told.append(p.nearest(target)).append(' ').append(p.target(target, 0)).append(' ');
        }
        for (int minute = 0; minute < 1440; minute += 60) {
            told.append(p.rate(minute)).append(' ');
        }
        for (int x = 3; x <= 9; x++) {
            for (int what = 0; what <= 2; what++) {
                told.append(p.ground(x, x, what)).append(' ').append(p.ground(x, 2, what)).append(' ');
            }
        }
        told.append(p.ground(0, 0, 0)).append(' ').append(p.ground(23, 23, 0)).append(' ').append(p.way(0, 0, 20, 20, 0)).append('\n');
        told.append(p.setSlope(12)).append(' ').append(p.run(40)).append(' ').append(p.digest()).append('\n');
        for (int mark = p.count(3) - 1; mark >= 0; mark--) {
            told.append(p.back(mark)).append(' ').append(p.digest()).append(' ');
        }
        lookAtRoom(p, told);
        return told.toString();
    }

    /** How many images have room, which tells the memory, and how many targets and passes; the capacity at last. */
    private static void lookAtRoom(RoverPlanner p, StringBuilder told) {
        while (p.count(2) > 0) {
            p.remove(0);
        }
        for (int i = 0; i < 5; i++) {
            told.append(Edge.act(p, 1, 0, 1)).append(' ');
        }
        told.append(p.count(0)).append(' ').append(p.count(1)).append(' ').append(p.setRover(100, 5000));
    }

    /** Of a planner in the middle of its work. */
    private static void refused(int promise, String sentence, Class<?> due, String call, Consumer<RoverPlanner> run) {
        refusedBy(busy(), BUSY, promise, sentence, due, call, run);
    }

    /** Of a planner that is full. */
    private static void refusedFull(int promise, String sentence, Class<?> due, String call, Consumer<RoverPlanner> run) {
        refusedBy(full(), FULL, promise, sentence, due, call + ", full", run);
    }

    private static void refusedBy(RoverPlanner p, String before, int promise, String sentence, Class<?> due, String call, Consumer<RoverPlanner> run) {
        Edge.of(promise, sentence);
        Due.fails(call, due, () -> run.accept(p));
        Due.is(call + ": all it answers then is as before", before, look(p));
    }

    private static void theGround() {
        int[][] wrong = {{-1, 23, 0, 23}, {0, 24, 0, 23}, {0, 23, -1, 23}, {0, 23, 0, 24}, {5, 4, 0, 23}, {0, 23, 5, 4}};
        for (int[] w : wrong) {
            refused(2, NOTHING, ARGUMENT, "raise no rectangle", p -> p.raise(w[0], w[1], w[2], w[3], 1));
            refused(3, NOTHING, ARGUMENT, "pave no rectangle", p -> p.pave(w[0], w[1], w[2], w[3], 1, true));
            refused(2, FIRST, ARGUMENT, "raise no rectangle by too much", p -> p.raise(w[0], w[1], w[2], w[3], 200));
            refused(3, FIRST, ARGUMENT, "pave no rectangle too rough", p -> p.pave(w[0], w[1], w[2], w[3], 4, true));
        }
        // only the places that busy() has raised, or lowered, would be beyond the limits
        refused(2, NOTHING, ARGUMENT, "raise to 100", p -> p.raise(0, 23, 0, 23, 93));
        refused(2, NOTHING, ARGUMENT, "lower to -100", p -> p.raise(0, 23, 0, 23, -77));
        refused(2, NOTHING, ARGUMENT, "raise by the greatest number", p -> p.raise(0, 23, 0, 23, Integer.MAX_VALUE));
        refused(2, NOTHING, ARGUMENT, "lower by the least number", p -> p.raise(0, 23, 0, 23, Integer.MIN_VALUE));
        refused(3, NOTHING, ARGUMENT, "pave with -1", p -> p.pave(0, 23, 0, 23, -1, true));
        refused(3, NOTHING, ARGUMENT, "pave with 4", p -> p.pave(0, 23, 0, 23, 4, true));
        refused(4, NOTHING, RANGE, "ground 24 0", p -> p.ground(24, 0, 0));
        refused(4, NOTHING, RANGE, "ground what 3", p -> p.ground(0, 0, 3));
        refused(5, NOTHING, ARGUMENT, "setSlope -1", p -> p.setSlope(-1));
        refused(5, NOTHING, ARGUMENT, "setSlope 100", p -> p.setSlope(100));
        refused(6, NOTHING, RANGE, "way from 24 0", p -> p.way(24, 0, 0, 0, 0));
        refused(6, NOTHING, RANGE, "way to 0 24", p -> p.way(0, 0, 0, 24, 0));
        refused(6, NOTHING, RANGE, "way what 4", p -> p.way(0, 0, 5, 5, 4));
        refused(7, NOTHING, RANGE, "sees from -1 0", p -> p.sees(-1, 0, 0, 0));
        refused(7, NOTHING, RANGE, "sees 0 -1", p -> p.sees(0, 0, 0, -1));
    }

    private static void targetsAndPasses() {
        refused(8, NOTHING, RANGE, "addTarget 24 0", p -> p.addTarget(24, 0, 1, 1));
        refused(8, NOTHING, ARGUMENT, "addTarget value 0", p -> p.addTarget(0, 0, 0, 1));
        refused(8, NOTHING, ARGUMENT, "addTarget value 101", p -> p.addTarget(0, 0, 101, 1));
        refused(8, NOTHING, ARGUMENT, "addTarget need 5", p -> p.addTarget(0, 0, 1, 5));
        refused(8, FIRST, RANGE, "addTarget nowhere with the value 0", p -> p.addTarget(0, -1, 0, 1));
        refused(8, FIRST, RANGE, "addTarget nowhere with the need 0", p -> p.addTarget(-1, 0, 1, 0));
        refusedFull(8, FIRST, RANGE, "addTarget nowhere with the value 0", p -> p.addTarget(0, 24, 0, 1));
        refusedFull(8, FIRST, RANGE, "addTarget nowhere", p -> p.addTarget(24, 0, 1, 1));
        refusedFull(8, FIRST, ARGUMENT, "addTarget value 101", p -> p.addTarget(0, 0, 101, 1));
        refusedFull(8, FIRST, ARGUMENT, "addTarget need 0", p -> p.addTarget(0, 0, 1, 0));
        refusedFull(8, NOTHING, STATE, "addTarget", p -> p.addTarget(0, 0, 1, 1));
        refused(9, NOTHING, RANGE, "target 3 of 3", p -> p.target(3, 0));
        refused(9, NOTHING, RANGE, "target what 6", p -> p.target(0, 6));
        refused(10, NOTHING, ARGUMENT, "addPass from -1", p -> p.addPass(-1, 5, 1));
        refused(10, NOTHING, ARGUMENT, "addPass to 1441", p -> p.addPass(0, 1441, 1));
        refused(10, NOTHING, ARGUMENT, "addPass to from", p -> p.addPass(5, 5, 1));
        refused(10, NOTHING, ARGUMENT, "addPass rate 21", p -> p.addPass(0, 5, 21));
        refusedFull(10, FIRST, ARGUMENT, "addPass from 1440", p -> p.addPass(1440, 1441, 1));
        refusedFull(10, FIRST, ARGUMENT, "addPass to from", p -> p.addPass(5, 5, 1));
        refusedFull(10, FIRST, ARGUMENT, "addPass rate 0", p -> p.addPass(0, 5, 0));
        refusedFull(10, NOTHING, STATE, "addPass", p -> p.addPass(0, 1440, 20));
        refused(11, NOTHING, ARGUMENT, "rate 1440", p -> p.rate(1440));
        refused(12, NOTHING, ARGUMENT, "sky -1", p -> p.sky(-1, true));
        refused(12, NOTHING, ARGUMENT, "sky 1440", p -> p.sky(1440, false));
    }

    private static void settings() {
        refused(13, NOTHING, ARGUMENT, "setRover capacity 99", p -> p.setRover(99, 300));
        refused(13, NOTHING, ARGUMENT, "setRover capacity 20001", p -> p.setRover(20001, 300));
        refused(13, NOTHING, ARGUMENT, "setRover memory 5001", p -> p.setRover(100, 5001));
        refused(13, FIRST, ARGUMENT, "setRover memory 39, of more data", p -> p.setRover(100, 39));
        refused(13, FIRST, ARGUMENT, "setRover capacity 99, of more data", p -> p.setRover(99, 40));
        refused(13, FIRST, ARGUMENT, "setRover capacity 20001, of more data", p -> p.setRover(20001, 40));
        refused(13, NOTHING, STATE, "setRover of more data", p -> p.setRover(100, 40));
        refused(13, NOTHING, STATE, "setRover of one more", p -> p.setRover(20000, p.rover(7) - 1));
    }

    private static void asking() {
        refused(14, NOTHING, RANGE, "rover -1", p -> p.rover(-1));
        refused(14, NOTHING, RANGE, "rover 10", p -> p.rover(10));
        refused(15, NOTHING, RANGE, "piece 2 of 2", p -> p.piece(2, 0));
        refused(15, NOTHING, RANGE, "piece what 4", p -> p.piece(0, 4));
        refused(20, NOTHING, RANGE, "activity 4 of 4", p -> p.activity(4, 0));
        refused(20, NOTHING, RANGE, "activity what 3", p -> p.activity(0, 3));
        refused(21, NOTHING, RANGE, "count 4", p -> p.count(4));
        refused(27, NOTHING, RANGE, "nearest 3 of 3", p -> p.nearest(3));
        refused(27, NOTHING, RANGE, "nearest -1", p -> p.nearest(-1));
    }

    private static void puts() {
        for (int[] c : CANNOT) {
            String call = "put " + c[0] + " " + c[1] + " " + c[2];
            refused(17, NOTHING, ARGUMENT, call, p -> p.put(2, c[0], c[1], c[2]));
            refused(17, FIRST, RANGE, call + " nowhere", p -> p.put(5, c[0], c[1], c[2]));
            refusedFull(17, FIRST, ARGUMENT, call, p -> p.put(40, c[0], c[1], c[2]));
            refusedFull(17, FIRST, RANGE, call + " nowhere", p -> p.put(-1, c[0], c[1], c[2]));
        }
        refused(17, NOTHING, RANGE, "put at -1", p -> p.put(-1, 7, 0, 0));
        refused(17, NOTHING, RANGE, "put at 5 of 4", p -> p.put(5, 7, 0, 0));
        refusedFull(17, FIRST, RANGE, "put at 41", p -> p.put(41, 7, 0, 0));
        refusedFull(17, NOTHING, STATE, "put at 0", p -> p.put(0, 7, 0, 0));
        refusedFull(17, NOTHING, STATE, "put at 40", p -> p.put(40, 7, 0, 0));
    }

    private static void thePlan() {
        refused(18, NOTHING, RANGE, "remove -1", p -> p.remove(-1));
        refused(18, NOTHING, RANGE, "remove 4 of 4", p -> p.remove(4));
        refusedFull(18, NOTHING, RANGE, "remove 40", p -> p.remove(40));
        refused(19, NOTHING, RANGE, "move -1 to 0", p -> p.move(-1, 0));
        refused(19, NOTHING, RANGE, "move 4 to 0 of 4", p -> p.move(4, 0));
        refused(19, NOTHING, RANGE, "move 0 to -1", p -> p.move(0, -1));
        refused(19, NOTHING, RANGE, "move 0 to 4 of 4", p -> p.move(0, 4));
        refusedFull(19, NOTHING, RANGE, "move 0 to 40", p -> p.move(0, 40));
        refusedFull(19, NOTHING, RANGE, "move 40 to 0", p -> p.move(40, 0));
        refused(25, NOTHING, ARGUMENT, "run 0", p -> p.run(0));
        refused(25, NOTHING, ARGUMENT, "run 41", p -> p.run(41));
        refusedFull(25, NOTHING, ARGUMENT, "run 41", p -> p.run(41));
        refused(26, NOTHING, ARGUMENT, "make 0", p -> p.make(0));
        refused(26, NOTHING, ARGUMENT, "make 2881", p -> p.make(2881));
        refusedFull(26, NOTHING, ARGUMENT, "make 2881", p -> p.make(2881));
    }

    private static void foretelling() {
        Edge.of(24, "if one of these fails");
        Due.is("the last one fails", 3, busy().check());
        refused(24, NOTHING, RANGE, "foretell what 10", p -> p.foretell(1, 10));
        refused(24, NOTHING, ARGUMENT, "foretell -1", p -> p.foretell(-1, 0));
        refused(24, NOTHING, STATE, "foretell 4, of which the last one fails", p -> p.foretell(4, 0));
        refused(24, FIRST, RANGE, "foretell 5 of 4, what -1", p -> p.foretell(5, -1));
        refused(24, FIRST, RANGE, "foretell -1, what 10", p -> p.foretell(-1, 10));
        refused(24, FIRST, RANGE, "foretell 4, of which the last one fails, what 10", p -> p.foretell(4, 10));
        refused(24, FIRST, ARGUMENT, "foretell 5 of 4, of which the last one fails", p -> p.foretell(5, 0));
        refusedFull(24, NOTHING, ARGUMENT, "foretell 41", p -> p.foretell(41, 0));
    }

    private static void marks() {
        refusedFull(28, NOTHING, STATE, "mark", RoverPlanner::mark);
        refused(29, NOTHING, RANGE, "back -1", p -> p.back(-1));
        refused(29, NOTHING, RANGE, "back 2 of 2", p -> p.back(2));
        refusedFull(29, NOTHING, RANGE, "back 8", p -> p.back(8));
    }
}
