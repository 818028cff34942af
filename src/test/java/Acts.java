/** What several tests do with a planner. */
final class Acts {
    private Acts() { }

    /** Does this activity alone, ahead of the plan; answers 1 if it was done, or 0, and then it is not in the plan. */
    static int one(RoverPlanner p, int kind, int a, int b) {
        p.put(0, kind, a, b);
        int done = p.run(1);
        if (done == 0) {
            p.remove(0);
        }
        return done;
    }
}
