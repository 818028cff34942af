/** Promises 17 to 21: the plan as a row of activities. */
public final class PlanTest {
    private static final int[] FAR = {Integer.MIN_VALUE, Integer.MAX_VALUE};

    public static void main(String[] args) {
        putting();
        puttingWrong();
        puttingWhatCannotBe();
        full();
        removing();
        removingAmongOthers();
        moving();
        told();
        counts();
        Due.end("PlanTest");
    }

    /** Seven activities SEND 1 .. SEND 7, told apart by their minutes. */
    private static RoverPlanner seven() {
        RoverPlanner p = new RoverPlanner();
        for (int i = 1; i <= 7; i++) {
            p.put(i - 1, 3, i, 0);
        }
        return p;
    }

    private static void row(String when, RoverPlanner p, int... minutes) {
        Due.is(when + ": count", minutes.length, p.count(2));
        for (int i = 0; i < minutes.length; i++) {
            Due.is(when + ": kind at " + i, 3, p.activity(i, 0));
            Due.is(when + ": a at " + i, minutes[i], p.activity(i, 1));
            Due.is(when + ": b at " + i, 0, p.activity(i, 2));
        }
    }

    private static void putting() {
        RoverPlanner p = new RoverPlanner();
        Due.is("put the first", 1, p.put(0, 3, 10, 0));
        Due.is("put behind", 2, p.put(1, 3, 11, 0));
        Due.is("put ahead", 3, p.put(0, 3, 12, 0));
        Due.is("put between", 4, p.put(1, 3, 13, 0));
        row("put", p, 12, 13, 10, 11);
        p.addTarget(0, 0, 1, 1);
        p.addTarget(0, 0, 1, 1);
        int[][] fine = {{0, 0, 0}, {0, 23, 23}, {1, 0, 1}, {1, 1, 9}, {2, 0, 1}, {2, 1, 9}, {3, 1, 0}, {3, 600, 0}, {4, 0, 0}, {4, 1439, 0},
            {5, 0, 0}, {5, 1439, 0}, {6, 0, 0}, {6, 1, 0}, {7, 0, 0}};
        RoverPlanner q = new RoverPlanner();
        q.addTarget(0, 0, 1, 1);
        q.addTarget(0, 0, 1, 1);
        for (int i = 0; i < fine.length; i++) {
            Due.is("put number " + i, i + 1, q.put(i, fine[i][0], fine[i][1], fine[i][2]));
        }
        for (int i = 0; i < fine.length; i++) {
            for (int what = 0; what <= 2; what++) {
                Due.is("activity " + i + " " + what, fine[i][what], q.activity(i, what));
            }
        }
    }

    private static void puttingWrong() {
        RoverPlanner p = seven();
        for (int place : new int[] {-1, 8, 40, FAR[0], FAR[1]}) {
            Due.outside("put at " + place, () -> p.put(place, 7, 0, 0));
            Due.outside("put at " + place + " what cannot be", () -> p.put(place, 8, 0, 0));
        }
        row("nothing is put", p, 1, 2, 3, 4, 5, 6, 7);
    }

    private static void puttingWhatCannotBe() {
        RoverPlanner p = new RoverPlanner();
        p.addTarget(0, 0, 1, 1);
        p.addTarget(0, 0, 1, 4);
        int[][] wrong = {{-1, 0, 0}, {8, 0, 0}, {0, -1, 0}, {0, 24, 0}, {0, 0, -1}, {0, 0, 24}, {1, -1, 5}, {1, 2, 5}, {1, 0, 0}, {1, 0, 10},
            {2, -1, 5}, {2, 2, 5}, {2, 0, 0}, {2, 0, 10}, {3, 0, 0}, {3, 601, 0}, {3, 1, 1}, {3, 1, -1}, {4, -1, 0}, {4, 1440, 0}, {4, 0, 1},
            {5, -1, 0}, {5, 1440, 0}, {5, 0, 1}, {6, -1, 0}, {6, 2, 0}, {6, 0, 1}, {6, 1, 1}, {7, 1, 0}, {7, -1, 0}, {7, 0, 1}, {7, 0, -1}};
        for (int[] w : wrong) {
            Due.argument("put " + w[0] + " " + w[1] + " " + w[2], () -> p.put(0, w[0], w[1], w[2]));
        }
        for (int far : FAR) {
            Due.argument("put kind " + far, () -> p.put(0, far, 0, 0));
            for (int kind = 0; kind <= 7; kind++) {
                int k = kind;
                Due.argument("put " + k + " a " + far, () -> p.put(0, k, far, k == 1 || k == 2 ? 1 : 0));
                Due.argument("put " + k + " b " + far, () -> p.put(0, k, k == 3 ? 1 : 0, far));
            }
        }
        Due.is("nothing is put", 0, p.count(2));
    }

    private static void full() {
        RoverPlanner p = new RoverPlanner();
        for (int i = 0; i < 40; i++) {
            Due.is("put " + i, i + 1, p.put(i, 3, i + 1, 0));
        }
        Due.state("put a forty-first", () -> p.put(0, 7, 0, 0));
        Due.state("put a forty-first at the end", () -> p.put(40, 7, 0, 0));
        Due.argument("put a forty-first that cannot be", () -> p.put(40, 7, 1, 0));
        Due.outside("put a forty-first nowhere", () -> p.put(41, 7, 1, 0));
        for (int i = 0; i < 40; i++) {
            Due.is("a at " + i, i + 1, p.activity(i, 1));
        }
        Due.is("move the first one to the end", 3, p.move(0, 39));
        Due.is("it is there", 1, p.activity(39, 1));
        Due.is("take out the last one", 3, p.remove(39));
        Due.is("put it in again", 40, p.put(0, 3, 1, 0));
        Due.is("the last one", 40, p.activity(39, 1));
    }

    private static void removing() {
        RoverPlanner p = seven();
        Due.is("remove the first", 3, p.remove(0));
        row("without the first", p, 2, 3, 4, 5, 6, 7);
        Due.is("remove the last", 3, p.remove(5));
        row("without the last", p, 2, 3, 4, 5, 6);
        Due.is("remove between", 3, p.remove(2));
        row("without the third", p, 2, 3, 5, 6);
        p.put(1, 7, 0, 0);
        Due.is("remove tells the kind", 7, p.remove(1));
        for (int place : new int[] {-1, 4, 40, FAR[0], FAR[1]}) {
            Due.outside("remove " + place, () -> p.remove(place));
        }
        row("nothing is removed", p, 2, 3, 5, 6);
        Due.outside("remove from an empty plan", () -> new RoverPlanner().remove(0));
    }

    private static void removingAmongOthers() {
        RoverPlanner p = new RoverPlanner();
        p.addTarget(0, 0, 1, 1);
        p.addTarget(0, 0, 1, 1);
        p.put(0, 7, 0, 0);
        p.put(1, 0, 5, 6);
        p.put(2, 2, 1, 9);
        p.put(3, 1, 0, 3);
        p.remove(1);
        int[] due = {7, 0, 0, 2, 1, 9, 1, 0, 3};
        for (int i = 0; i < due.length; i++) {
            Due.is("activity " + i / 3 + " " + i % 3, due[i], p.activity(i / 3, i % 3));
        }
        p.put(1, 0, 7, 8);
        p.move(0, 3);
        int[] then = {0, 7, 8, 2, 1, 9, 1, 0, 3, 7, 0, 0};
        for (int i = 0; i < then.length; i++) {
            Due.is("activity then " + i / 3 + " " + i % 3, then[i], p.activity(i / 3, i % 3));
        }
    }

    private static void moving() {
        RoverPlanner p = seven();
        Due.is("move later", 3, p.move(1, 4));
        row("moved later", p, 1, 3, 4, 5, 2, 6, 7);
        Due.is("move earlier", 3, p.move(5, 2));
        row("moved earlier", p, 1, 3, 6, 4, 5, 2, 7);
        Due.is("move nowhere", 3, p.move(3, 3));
        Due.is("move to the end", 3, p.move(0, 6));
        row("moved to the end", p, 3, 6, 4, 5, 2, 7, 1);
        Due.is("move to the beginning", 3, p.move(6, 0));
        row("moved to the beginning", p, 1, 3, 6, 4, 5, 2, 7);
        for (int place : new int[] {-1, 7, 40, FAR[0], FAR[1]}) {
            Due.outside("move " + place, () -> p.move(place, 0));
            Due.outside("move to " + place, () -> p.move(0, place));
        }
        row("nothing is moved", p, 1, 3, 6, 4, 5, 2, 7);
        p.addTarget(0, 0, 1, 1);
        p.put(7, 1, 0, 8);
        Due.is("move tells the kind", 1, p.move(7, 1));
        Due.is("a came along", 0, p.activity(1, 1));
        Due.is("b came along", 8, p.activity(1, 2));
    }

    private static void told() {
        RoverPlanner p = seven();
        for (int place : new int[] {-1, 7, 40, FAR[0], FAR[1]}) {
            Due.outside("activity " + place, () -> p.activity(place, 0));
        }
        Due.outside("activity what -1", () -> p.activity(0, -1));
        Due.outside("activity what 3", () -> p.activity(0, 3));
        p.remove(6);
        Due.outside("activity that was removed", () -> p.activity(6, 0));
    }

    private static void counts() {
        RoverPlanner p = seven();
        p.addTarget(0, 0, 1, 1);
        p.addTarget(0, 0, 1, 1);
        p.addPass(0, 1, 1);
        p.mark();
        p.mark();
        p.mark();
        int[] due = {2, 1, 7, 3};
        for (int what = 0; what <= 3; what++) {
            Due.is("count " + what, due[what], p.count(what));
        }
        for (int what : new int[] {-1, 4, FAR[0], FAR[1]}) {
            Due.outside("count " + what, () -> p.count(what));
        }
    }
}
