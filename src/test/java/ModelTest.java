import java.util.Random;
import java.util.function.Supplier;

/** Long runs of calls on RoverPlanner and on Model, which have to answer the same. */
public final class ModelTest {
    private static final int RUNS = Integer.getInteger("runs", 300);
    /** What later calls answer is free. */
    private static final int CALLS = 512;

    private final Random random;
    private final RoverPlanner planner = new RoverPlanner();
    private final Model model = new Model();
    private final StringBuilder told = new StringBuilder();
    private final int run;
    private int calls;
    /** Whether the targets are close together on plain ground, and there is much to send. */
    private final boolean isBusy;
    private boolean isWrong;
    /** How often a call answered what is worth counting, over all runs: a test that saw nothing shows nothing. */
    private static final int[] reasons = new int[8];
    private static final int[] seen = new int[8];

    private ModelTest(int run) {
        this.run = run;
        this.isBusy = run % 4 == 3;
        this.random = new Random(7919L * run + 13);
    }

    public static void main(String[] args) {
        int wrong = 0;
        for (int run = 0; run < RUNS && wrong < 5; run++) {
            wrong += new ModelTest(run).go() ? 0 : 1;
        }
        for (int reason = 0; reason < reasons.length; reason++) {
            if (reasons[reason] == 0) {
                System.out.println("no run came to the reason " + reason);
                wrong++;
            }
        }
        String[] names = {"made", "scored", "ran", "back", "met", "partly sent", "many kept", "nearest"};
        for (int i = 0; i < seen.length; i++) {
            if (seen[i] == 0) {
                System.out.println("no run came to: " + names[i]);
                wrong++;
            }
        }
        if (System.getenv("COUNTS") != null) System.out.println(java.util.Arrays.toString(reasons) + java.util.Arrays.toString(seen));
        System.exit(wrong == 0 ? 0 : 1);
    }

    private int any(int least, int most) {
        return least + random.nextInt(most - least + 1);
    }

    /** Mostly within the limits, sometimes just beyond them, seldom far away. */
    private int near(int least, int most) {
        int dice = random.nextInt(60);
        if (dice == 0) {
            return least - 1;
        }
        if (dice == 1) {
            return most + 1;
        }
        if (dice == 2) {
            return random.nextBoolean() ? Integer.MIN_VALUE : Integer.MAX_VALUE;
        }
        return dice < 8 ? (random.nextBoolean() ? least : most) : any(least, Math.max(least, most));
    }

    private static Object answer(Supplier<Object> call) {
        try {
            return call.get();
        } catch (IndexOutOfBoundsException | IllegalArgumentException | IllegalStateException e) {
            return e.getClass().getSimpleName();
        }
    }

    private Object same(String name, Supplier<Object> got, Supplier<Object> due) {
        Object g;
        calls++;
        try {
            g = answer(got);
        } catch (RuntimeException e) {
            g = "machine: " + e;
        }
        Object d = answer(due);
        told.append(name).append(" -> ").append(d).append('\n');
        if (!g.equals(d)) {
            isWrong = true;
            System.out.println("run " + run + "\n" + told + "but it answered " + g);
        }
        return d;
    }

    private boolean go() {
        hills(run % 3 == 0);
        for (int i = 0; i < 4; i++) {
            place();
        }
        if (run % 2 == 0) {
            int capacity = any(1000, 20000);
            int memory = any(40, 5000);
            same("setRover", () -> planner.setRover(capacity, memory), () -> model.setRover(capacity, memory));
            same("addPass(0,1440,1)", () -> planner.addPass(0, 1440, 1), () -> model.addPass(0, 1440, 1));
        }
        if (run % 5 == 1) {
            lateDays();
        }
        if (isBusy) {
            warmDay();
        }
        // a turn takes at most three calls, and the last call is digest
        while (calls <= CALLS - 4 && !isWrong) {
            switch (random.nextInt(14)) {
                case 0: world(); break;
                case 1: ask(); break;
                case 2: case 3: edit(); break;
                case 4: case 5: case 6: case 7: add(); break;
                case 8: case 9: case 10: looks(); break;
                case 11: if (random.nextInt(3) == 0) { marks(); } break;
                default: doSome(); break;
            }
        }
        if (!isWrong) {
            same("digest", planner::digest, model::digest);
        }
        return !isWrong;
    }

    /** Close to the end of the time, with the battery well filled. */
    private void lateDays() {
        same("setRover 20000 800", () -> planner.setRover(20000, 800), () -> model.setRover(20000, 800));
        for (int i = 0; i < 10; i++) {
            int until = i == 9 ? any(600, 1439) : 0;
            same("put 0 5 " + until, () -> planner.put(0, 5, until, 0), () -> model.put(0, 5, until, 0));
            same("run 1", () -> planner.run(1), () -> model.run(1));
        }
    }

    private void warmDay() {
        same("setRover 20000 5000", () -> planner.setRover(20000, 5000), () -> model.setRover(20000, 5000));
        for (int i = 0; i < 8; i++) {
            int x = any(1, 6);
            int y = any(1, 6);
            int need = any(1, 4);
            same("addTarget " + x + " " + y + " 10 " + need, () -> planner.addTarget(x, y, 10, need), () -> model.addTarget(x, y, 10, need));
        }
        same("addPass 0 1440 2", () -> planner.addPass(0, 1440, 2), () -> model.addPass(0, 1440, 2));
        int start = any(300, 500);
        same("put 0 5 " + start, () -> planner.put(0, 5, start, 0), () -> model.put(0, 5, start, 0));
        same("put 1 6 1", () -> planner.put(1, 6, 1, 0), () -> model.put(1, 6, 1, 0));
        int later = start + 60;
        same("put 2 5 " + later, () -> planner.put(2, 5, later, 0), () -> model.put(2, 5, later, 0));
        same("run 3", () -> planner.run(3), () -> model.run(3));
    }

    private void hills(boolean isPlain) {
        for (int i = 0; i < (isPlain || isBusy ? 2 : 14); i++) {
            int x = any(0, 23);
            int y = any(0, 23);
            int u = any(x, Math.min(23, x + 8));
            int v = any(y, Math.min(23, y + 8));
            int by = any(-14, 14);
            same("raise " + x + " " + u + " " + y + " " + v + " " + by, () -> planner.raise(x, u, y, v, by), () -> model.raise(x, u, y, v, by));
            int rough = any(0, 3);
            boolean isHazard = random.nextInt(3) == 0;
            int w = isHazard ? x : u;
            same("pave " + x + " " + w + " " + y + " " + v + " " + rough + " " + isHazard, () -> planner.pave(x, w, y, v, rough, isHazard), () -> model.pave(x, w, y, v, rough, isHazard));
        }
    }

    private void place() {
        int x = near(0, random.nextBoolean() ? 23 : 8);
        int y = near(0, random.nextBoolean() ? 23 : 8);
        int value = near(1, 100);
        int need = near(1, 4);
        same("addTarget " + x + " " + y + " " + value + " " + need, () -> planner.addTarget(x, y, value, need), () -> model.addTarget(x, y, value, need));
    }

    private void world() {
        int x = near(0, 23);
        int left = Math.min(23, Math.max(x, 0));
        int u = near(left, Math.min(23, left + 5));
        int y = near(0, 23);
        int top = Math.min(23, Math.max(y, 0));
        int v = near(top, Math.min(23, top + 5));
        switch (random.nextInt(8)) {
            case 0: {
                int by = random.nextInt(20) == 0 ? near(-198, 198) : any(-9, 9);
                same("raise " + x + " " + u + " " + y + " " + v + " " + by, () -> planner.raise(x, u, y, v, by), () -> model.raise(x, u, y, v, by));
                break;
            }
            case 1: {
                int rough = near(0, 3);
                boolean isHazard = random.nextInt(4) == 0;
                same("pave " + x + " " + u + " " + y + " " + v + " " + rough + " " + isHazard, () -> planner.pave(x, u, y, v, rough, isHazard), () -> model.pave(x, u, y, v, rough, isHazard));
                break;
            }
            case 2: {
                int limit = random.nextBoolean() ? near(0, 99) : any(8, 30);
                same("setSlope " + limit, () -> planner.setSlope(limit), () -> model.setSlope(limit));
                break;
            }
            case 3: case 4:
                place();
                break;
            case 5: {
                int from = near(0, 1439);
                int to = random.nextInt(4) == 0 ? near(1, 1440) : (int) Math.min(1440L, from + (long) any(0, 400));
                int rate = near(1, 20);
                same("addPass " + from + " " + to + " " + rate, () -> planner.addPass(from, to, rate), () -> model.addPass(from, to, rate));
                break;
            }
            default: {
                int capacity = near(100, random.nextBoolean() ? 20000 : 3000);
                int memory = near(40, random.nextBoolean() ? 5000 : 600);
                same("setRover " + capacity + " " + memory, () -> planner.setRover(capacity, memory), () -> model.setRover(capacity, memory));
            }
        }
    }

    private void ask() {
        int x = near(0, 23);
        int y = near(0, 23);
        int u = near(0, 23);
        int v = near(0, 23);
        int minute = near(0, 1439);
        switch (random.nextInt(6)) {
            case 0: {
                int what = near(0, 2);
                same("ground " + x + " " + y + " " + what, () -> planner.ground(x, y, what), () -> model.ground(x, y, what));
                break;
            }
            case 1: {
                int what = near(0, 3);
                same("way " + x + " " + y + " " + u + " " + v + " " + what, () -> planner.way(x, y, u, v, what), () -> model.way(x, y, u, v, what));
                break;
            }
            case 2:
                same("sees " + x + " " + y + " " + u + " " + v, () -> planner.sees(x, y, u, v), () -> model.sees(x, y, u, v));
                break;
            case 3:
                same("rate " + minute, () -> planner.rate(minute), () -> model.rate(minute));
                break;
            case 4: {
                boolean isOfAir = random.nextBoolean();
                same("sky " + minute + " " + isOfAir, () -> planner.sky(minute, isOfAir), () -> model.sky(minute, isOfAir));
                break;
            }
            default: {
                int target = near(0, model.targets.size() - 1);
                Object d = same("nearest " + target, () -> planner.nearest(target), () -> model.nearest(target));
                seen[7] += d instanceof Integer i && i > 0 ? 1 : 0;
            }
        }
    }

    private void edit() {
        int place = near(0, Math.max(0, model.plan.size() - 1));
        int to = near(0, Math.max(0, model.plan.size() - 1));
        switch (random.nextInt(model.plan.size() > 30 ? 3 : 6)) {
            case 0:
                same("remove " + place, () -> planner.remove(place), () -> model.remove(place));
                break;
            case 1:
                same("move " + place + " " + to, () -> planner.move(place, to), () -> model.move(place, to));
                break;
            default:
                add();
        }
    }

    private void add() {
        int place = random.nextInt(6) == 0 ? near(0, model.plan.size()) : model.plan.size();
        int dice = random.nextInt(20);
        int kind = dice < 6 || isBusy && dice < 12 ? 1 : dice < 9 ? 3 : dice == 19 ? near(0, 7) : any(0, 7);
        int a;
        int b = random.nextInt(50) == 0 ? 1 : 0;
        switch (kind) {
            case 0:
                a = near(0, isBusy ? 7 : 14);
                b = near(0, isBusy ? 7 : 14);
                break;
            case 1: case 2:
                a = near(0, model.targets.size() - 1);
                b = near(1, 9);
                break;
            case 3:
                a = !isBusy && random.nextBoolean() ? near(1, 600) : any(1, 12);
                break;
            case 4: case 5:
                a = !isBusy && random.nextBoolean() ? near(0, 1439) : (int) (((long) model.now.time + any(1, 120)) % 1440);
                break;
            case 6:
                a = !isBusy && random.nextInt(3) == 0 ? near(0, 1) : 1;
                break;
            default:
                a = random.nextInt(20) == 0 ? 1 : 0;
        }
        int lastA = a;
        int lastB = b;
        same("put " + place + " " + kind + " " + a + " " + b, () -> planner.put(place, kind, lastA, lastB), () -> model.put(place, kind, lastA, lastB));
    }

    private void looks() {
        switch (random.nextInt(10)) {
            case 0: same("check", planner::check, model::check); break;
            case 1: {
                Object d = same("reason", planner::reason, model::reason);
                reasons[(Integer) d]++;
                break;
            }
            case 2: {
                int many = near(0, model.plan.size());
                int what = near(0, 9);
                same("foretell " + many + " " + what, () -> planner.foretell(many, what), () -> model.foretell(many, what));
                break;
            }
            case 3: {
                int what = near(0, 9);
                same("rover " + what, () -> planner.rover(what), () -> model.rover(what));
                break;
            }
            case 4: {
                int piece = near(0, model.now.kept.size() - 1);
                int what = near(0, 3);
                Object d = same("piece " + piece + " " + what, () -> planner.piece(piece, what), () -> model.piece(piece, what));
                seen[5] += what == 1 && d instanceof Integer left && left != 40 && left != 90 ? 1 : 0;
                break;
            }
            case 5: {
                int target = near(0, model.targets.size() - 1);
                int what = random.nextBoolean() ? any(2, 5) : near(0, 5);
                Object d = same("target " + target + " " + what, () -> planner.target(target, what), () -> model.target(target, what));
                seen[4] += what == 5 && d.equals(1) ? 1 : 0;
                break;
            }
            case 6: {
                int place = near(0, model.plan.size() - 1);
                int what = near(0, 2);
                same("activity " + place + " " + what, () -> planner.activity(place, what), () -> model.activity(place, what));
                break;
            }
            case 7: {
                int what = near(0, 3);
                same("count " + what, () -> planner.count(what), () -> model.count(what));
                break;
            }
            case 8:
                seen[1] += (Integer) same("score", planner::score, model::score) > 0 ? 1 : 0;
                same("sent", planner::sent, model::sent);
                break;
            default:
                same("digest", planner::digest, model::digest);
        }
    }

    private void doSome() {
        if (random.nextInt(3) == 0) {
            int n = random.nextBoolean() ? near(1, 2880) : any(20, 400);
            Object d = same("make " + n, () -> planner.make(n), () -> model.make(n));
            seen[0] += d instanceof Integer i && i > 0 ? 1 : 0;
            return;
        }
        int most = random.nextBoolean() ? near(1, 40) : any(1, 3);
        Object d = same("run " + most, () -> planner.run(most), () -> model.run(most));
        seen[2] += d instanceof Integer i && i > 1 ? 1 : 0;
        seen[6] += model.now.kept.size() > 15 ? 1 : 0;
        if (model.plan.size() > 0 && model.check() == 0 && random.nextInt(3) > 0) {
            reasons[(Integer) same("reason", planner::reason, model::reason)]++;
            same("remove 0", () -> planner.remove(0), () -> model.remove(0));
        }
    }

    private void marks() {
        if (random.nextInt(3) > 0) {
            same("mark", planner::mark, model::mark);
            return;
        }
        int mark = near(0, model.marks.size() - 1);
        Object d = same("back " + mark, () -> planner.back(mark), () -> model.back(mark));
        seen[3] += d instanceof Integer ? 1 : 0;
        same("digest", planner::digest, model::digest);
    }
}
