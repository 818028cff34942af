/** The boundary cases of promises 17 to 21, sentence by sentence. */
public final class PlanEdgesTest {
    public static void main(String[] args) {
        putPlaces();
        putKinds();
        putNumbers();
        putForTargets();
        mostActivities();
        putAtItsPlace();
        removePlaces();
        removeTheLast();
        movePlaces();
        moveInAndOut();
        activityAsked();
        countAsked();
        Edge.end("PlanEdgesTest", 17, 21);
    }

    /** A plan of SEND 1 .. SEND n, told apart by their minutes. */
    private static RoverPlanner sends(int n) {
        RoverPlanner p = new RoverPlanner();
        for (int i = 1; i <= n; i++) {
            p.put(i - 1, 3, i, 0);
        }
        return p;
    }

    /** The minutes of a plan of SENDs, as one text. */
    private static String minutes(RoverPlanner p) {
        StringBuilder told = new StringBuilder();
        for (int i = 0; i < p.count(2); i++) {
            told.append(p.activity(i, 1)).append(' ');
        }
        return told.toString().trim();
    }

    // ---- promise 17

    private static void putPlaces() {
        Edge.of(17, "if place is not 0 to the number of activities");
        RoverPlanner empty = new RoverPlanner();
        Due.outside("-1 in an empty plan", () -> empty.put(-1, 7, 0, 0));
        Due.outside("1 in an empty plan", () -> empty.put(1, 7, 0, 0));
        Due.is("0 in an empty plan", 1, empty.put(0, 7, 0, 0));
        RoverPlanner p = sends(3);
        Due.outside("-1 of 3", () -> p.put(-1, 7, 0, 0));
        Due.outside("4 of 3", () -> p.put(4, 7, 0, 0));
        for (int far : Edge.FAR) {
            Due.outside("" + far, () -> p.put(far, 7, 0, 0));
        }
        Due.is("nothing is put", "1 2 3", minutes(p));
        Due.is("3 of 3", 4, p.put(3, 3, 4, 0));
        Due.is("behind all", "1 2 3 4", minutes(p));
        Due.is("0 of 4", 5, p.put(0, 3, 5, 0));
        Due.is("ahead of all", "5 1 2 3 4", minutes(p));
    }

    private static void cannot(RoverPlanner p, int kind, int a, int b) {
        Due.argument("put " + kind + " " + a + " " + b, () -> p.put(0, kind, a, b));
        Due.is("nothing is put", 0, p.count(2));
    }

    private static void can(RoverPlanner p, int kind, int a, int b) {
        Due.is("put " + kind + " " + a + " " + b, 1, p.put(0, kind, a, b));
        Due.is("it is put", kind + " " + a + " " + b + ", ", Edge.plan(p));
        p.remove(0);
    }

    private static void putKinds() {
        Edge.of(17, "if kind is not 0 to 7, or a or b cannot be so");
        RoverPlanner p = new RoverPlanner();
        can(p, 0, 0, 0);
        can(p, 7, 0, 0);
        cannot(p, -1, 0, 0);
        cannot(p, 8, 0, 0);
        for (int far : Edge.FAR) {
            cannot(p, far, 0, 0);
        }
    }

    private static void putNumbers() {
        Edge.of(17, "for DRIVE if there is no such place");
        RoverPlanner drive = new RoverPlanner();
        can(drive, 0, 23, 0);
        can(drive, 0, 0, 23);
        can(drive, 0, 23, 23);
        cannot(drive, 0, -1, 0);
        cannot(drive, 0, 24, 0);
        cannot(drive, 0, 0, -1);
        cannot(drive, 0, 0, 24);
        drive.pave(4, 4, 4, 4, 0, true);
        can(drive, 0, 4, 4);
        Edge.of(17, "for SEND if a is not 1 to 600, for WAIT and SLEEP if it is not 0 to 1439, for HEAT if it is not 0 or 1, for CLEAN if it is not 0");
        RoverPlanner p = new RoverPlanner();
        int[][] limits = {{3, 1, 600}, {4, 0, 1439}, {5, 0, 1439}, {6, 0, 1}, {7, 0, 0}};
        for (int[] limit : limits) {
            can(p, limit[0], limit[1], 0);
            can(p, limit[0], limit[2], 0);
            cannot(p, limit[0], limit[1] - 1, 0);
            cannot(p, limit[0], limit[2] + 1, 0);
        }
        Edge.of(17, "and for these last five if b is not 0");
        for (int[] limit : limits) {
            cannot(p, limit[0], limit[2], -1);
            cannot(p, limit[0], limit[2], 1);
        }
        Edge.of(17, "or a or b cannot be so");
        RoverPlanner q = new RoverPlanner();
        for (int far : Edge.FAR) {
            for (int kind = 0; kind <= 7; kind++) {
                int least = kind == 3 ? 1 : 0;
                cannot(q, kind, far, 0);
                cannot(q, kind, least, far);
            }
        }
    }

    private static void putForTargets() {
        Edge.of(17, "for IMAGE and TOUCH if there is no such target, or b is not 1 to 9");
        for (int kind = 1; kind <= 2; kind++) {
            RoverPlanner p = new RoverPlanner();
            cannot(p, kind, 0, 1);
            p.addTarget(0, 0, 1, 1);
            can(p, kind, 0, 1);
            cannot(p, kind, 1, 1);
            p.addTarget(0, 0, 1, 4);
            can(p, kind, 1, 9);
            cannot(p, kind, -1, 1);
            cannot(p, kind, 2, 1);
            cannot(p, kind, 0, 0);
            cannot(p, kind, 0, 10);
            cannot(p, kind, 2, 10);
        }
    }

    private static void mostActivities() {
        Edge.of(17, "if there are 40");
        RoverPlanner p = sends(39);
        Due.is("the fortieth, ahead of all", 40, p.put(0, 3, 40, 0));
        Due.state("one more ahead of all", () -> p.put(0, 3, 41, 0));
        Due.state("one more between", () -> p.put(20, 3, 41, 0));
        Due.state("one more behind all", () -> p.put(40, 3, 41, 0));
        Due.is("count", 40, p.count(2));
        Due.is("the first", 40, p.activity(0, 1));
        Due.is("the last", 39, p.activity(39, 1));
        p.remove(39);
        Due.is("a fortieth behind all", 40, p.put(39, 3, 50, 0));
        Due.is("the new last", 50, p.activity(39, 1));
    }

    private static void putAtItsPlace() {
        Edge.of(17, "its place, from 0; those from there on come one place later");
        RoverPlanner p = sends(3);
        p.put(1, 3, 9, 0);
        Due.is("at 1", "1 9 2 3", minutes(p));
        p.put(3, 3, 8, 0);
        Due.is("at 3, ahead of the last", "1 9 2 8 3", minutes(p));
        RoverPlanner q = new RoverPlanner();
        q.put(0, 0, 5, 6);
        q.put(0, 0, 7, 8);
        q.put(1, 7, 0, 0);
        q.put(0, 6, 1, 0);
        Due.is("kind, a and b come along", "6 1 0, 0 7 8, 7 0 0, 0 5 6, ", Edge.plan(q));
        Edge.of(17, "Returns the number of activities.");
        Due.is("the sixth", 6, p.put(0, 7, 0, 0));
    }

    // ---- promise 18

    private static void removePlaces() {
        Edge.of(18, "if there is no such activity in the plan");
        Due.outside("0 of none", () -> new RoverPlanner().remove(0));
        Due.outside("-1 of none", () -> new RoverPlanner().remove(-1));
        RoverPlanner p = sends(3);
        Due.outside("-1 of 3", () -> p.remove(-1));
        Due.outside("3 of 3", () -> p.remove(3));
        for (int far : Edge.FAR) {
            Due.outside("" + far, () -> p.remove(far));
        }
        Due.is("nothing is taken out", "1 2 3", minutes(p));
        RoverPlanner full = sends(40);
        Due.outside("40 of 40", () -> full.remove(40));
        Due.is("39 of 40", 3, full.remove(39));
        Due.outside("39 of 39", () -> full.remove(39));
        Due.is("the last of 39", 39, full.activity(38, 1));
    }

    private static void removeTheLast() {
        Edge.of(18, "Takes an activity out of the plan.");
        RoverPlanner p = sends(4);
        p.remove(0);
        Due.is("the first", "2 3 4", minutes(p));
        p.remove(2);
        Due.is("the last", "2 3", minutes(p));
        p.put(1, 7, 0, 0);
        Due.is("between", 7, p.remove(1));
        p.remove(0);
        p.remove(0);
        Due.is("all", "", minutes(p));
        Due.outside("none is left", () -> p.remove(0));
        Edge.of(18, "Returns its kind.");
        RoverPlanner q = new RoverPlanner();
        q.addTarget(0, 0, 1, 1);
        int[][] all = {{0, 0, 0}, {1, 0, 1}, {2, 0, 1}, {3, 1, 0}, {4, 0, 0}, {5, 0, 0}, {6, 0, 0}, {7, 0, 0}};
        for (int[] a : all) {
            q.put(q.count(2), a[0], a[1], a[2]);
        }
        for (int kind = 0; kind <= 7; kind++) {
            Due.is("kind", kind, q.remove(0));
        }
    }

    // ---- promise 19

    private static void movePlaces() {
        Edge.of(19, "if there is no such activity, or no such place");
        Due.outside("0 to 0 of none", () -> new RoverPlanner().move(0, 0));
        RoverPlanner p = sends(3);
        Due.outside("-1 to 0", () -> p.move(-1, 0));
        Due.outside("3 to 0 of 3", () -> p.move(3, 0));
        Due.outside("0 to -1", () -> p.move(0, -1));
        Due.outside("0 to 3 of 3", () -> p.move(0, 3));
        Due.outside("3 to 3 of 3", () -> p.move(3, 3));
        Due.outside("2 to 3 of 3", () -> p.move(2, 3));
        for (int far : Edge.FAR) {
            Due.outside(far + " to 0", () -> p.move(far, 0));
            Due.outside("0 to " + far, () -> p.move(0, far));
        }
        Due.is("nothing is moved", "1 2 3", minutes(p));
        RoverPlanner one = sends(1);
        Due.is("0 to 0 of one", 3, one.move(0, 0));
        Due.is("it is there", "1", minutes(one));
        Due.outside("0 to 1 of one", () -> one.move(0, 1));
    }

    private static void moveInAndOut() {
        Edge.of(19, "it is taken out, and put in so that it is at that place then");
        RoverPlanner p = sends(5);
        p.move(0, 4);
        Due.is("the first to the end", "2 3 4 5 1", minutes(p));
        p.move(4, 0);
        Due.is("the last to the beginning", "1 2 3 4 5", minutes(p));
        p.move(1, 2);
        Due.is("one place later", "1 3 2 4 5", minutes(p));
        p.move(2, 1);
        Due.is("one place earlier", "1 2 3 4 5", minutes(p));
        p.move(4, 4);
        Due.is("the last to where it is", "1 2 3 4 5", minutes(p));
        p.move(1, 3);
        Due.is("two places later", "1 3 4 2 5", minutes(p));
        RoverPlanner full = sends(40);
        Due.is("0 to 39 of 40", 3, full.move(0, 39));
        Due.is("the last of 40", 1, full.activity(39, 1));
        Due.is("the one ahead of it", 40, full.activity(38, 1));
        Due.is("the first of 40", 2, full.activity(0, 1));
        Due.is("39 to 0 of 40", 3, full.move(39, 0));
        Due.is("the first is the first again", 1, full.activity(0, 1));
        Due.outside("39 to 40 of 40", () -> full.move(39, 40));
        Due.outside("40 to 39 of 40", () -> full.move(40, 39));
        Due.is("count", 40, full.count(2));
        Edge.of(19, "Returns its kind.");
        full.remove(0);
        full.put(20, 6, 1, 0);
        Due.is("kind", 6, full.move(20, 0));
        Due.is("kind of another", 3, full.move(1, 0));
        Due.is("a of what was moved", 1, full.activity(1, 1));
        RoverPlanner q = new RoverPlanner();
        q.put(0, 0, 5, 6);
        q.put(1, 7, 0, 0);
        q.move(0, 1);
        Due.is("a and b come along", "7 0 0, 0 5 6, ", Edge.plan(q));
    }

    // ---- promise 20

    private static void activityAsked() {
        Edge.of(20, "if there is no such activity, or what is not 0 to 2");
        Due.outside("0 of none", () -> new RoverPlanner().activity(0, 0));
        RoverPlanner p = new RoverPlanner();
        p.put(0, 0, 8, 9);
        p.put(1, 0, 10, 11);
        Due.is("the last activity", 10, p.activity(1, 1));
        Due.is("the last what", 9, p.activity(0, 2));
        Due.outside("-1 of 2", () -> p.activity(-1, 0));
        Due.outside("2 of 2", () -> p.activity(2, 0));
        Due.outside("what -1", () -> p.activity(0, -1));
        Due.outside("what 3", () -> p.activity(0, 3));
        for (int far : Edge.FAR) {
            Due.outside("" + far, () -> p.activity(far, 0));
            Due.outside("what " + far, () -> p.activity(0, far));
        }
        RoverPlanner full = sends(40);
        Due.is("39 of 40", 40, full.activity(39, 1));
        Due.outside("40 of 40", () -> full.activity(40, 1));
    }

    // ---- promise 21

    private static void countAsked() {
        Edge.of(21, "if what is not 0 to 3");
        RoverPlanner p = new RoverPlanner();
        Due.is("0", 0, p.count(0));
        Due.is("3", 0, p.count(3));
        Due.outside("-1", () -> p.count(-1));
        Due.outside("4", () -> p.count(4));
        for (int far : Edge.FAR) {
            Due.outside("" + far, () -> p.count(far));
        }
        Edge.of(21, "0 targets, 1 passes, 2 activities of the plan, 3 marks");
        for (int i = 0; i < 40; i++) {
            p.put(0, 7, 0, 0);
            if (i < 12) {
                p.addTarget(0, 0, 1, 1);
            }
            if (i < 6) {
                p.addPass(0, 1, 1);
            }
            if (i < 8) {
                p.mark();
            }
        }
        int[] most = {12, 6, 40, 8};
        for (int what = 0; what <= 3; what++) {
            Due.is("the most of " + what, most[what], p.count(what));
        }
        p.back(0);
        Due.is("targets stay", 12, p.count(0));
        Due.is("passes stay", 6, p.count(1));
        Due.is("the plan of the first mark", 1, p.count(2));
        Due.is("one mark is left", 1, p.count(3));
    }
}
