import java.io.IOException;
import java.nio.file.Files;
import java.nio.file.Path;
import java.util.Set;
import java.util.TreeSet;

/** What the tests of boundary cases share. Runs in the root of the project, as the document is looked up there. */
final class Edge {
    /** Far beyond each limit of the document, where sums and differences wrap around. */
    static final int[] FAR = {Integer.MIN_VALUE, Integer.MIN_VALUE + 1, Integer.MAX_VALUE - 1, Integer.MAX_VALUE};

    private static final String DOCUMENT = document();
    private static final Set<Integer> promises = new TreeSet<>();

    private Edge() { }

    private static String document() {
        try {
            return plain(Files.readString(Path.of("../shared/DOC.md")));
        } catch (IOException e) {
            throw new IllegalStateException("the document is not where it should be", e);
        }
    }

    private static String plain(String text) {
        return text.replaceAll("\\s+", " ");
    }

    /** What is asked from here on is of this promise, and of this sentence, which has to stand in the document. */
    static void of(int promise, String sentence) {
        promises.add(promise);
        Due.heading("promise " + promise + ", \"" + sentence + "\": ");
        Due.is("this stands in the document", true, DOCUMENT.contains(plain(sentence)));
    }

    /** Ends a test that has to have had sentences of all these promises. */
    static void end(String test, int first, int last) {
        Due.heading("");
        for (int promise = first; promise <= last; promise++) {
            Due.is("a sentence of promise " + promise + " was tested", true, promises.contains(promise));
        }
        Due.end(test);
    }

    /** All ten numbers that rover() tells, as one text. */
    static String rover(RoverPlanner p) {
        StringBuilder told = new StringBuilder();
        for (int what = 0; what <= 9; what++) {
            told.append(p.rover(what)).append(' ');
        }
        return told.toString().trim();
    }

    /** The plan, as one text: kind, a and b of each activity. */
    static String plan(RoverPlanner p) {
        StringBuilder told = new StringBuilder();
        for (int place = 0; place < p.count(2); place++) {
            told.append(p.activity(place, 0)).append(' ').append(p.activity(place, 1)).append(' ').append(p.activity(place, 2)).append(", ");
        }
        return told.toString();
    }

    /** The pieces that are kept, as one text: target, what is left, priority and octant of each. */
    static String pieces(RoverPlanner p) {
        StringBuilder told = new StringBuilder();
        for (int piece = 0; piece < p.rover(8); piece++) {
            for (int what = 0; what <= 3; what++) {
                told.append(p.piece(piece, what)).append(what < 3 ? " " : ", ");
            }
        }
        return told.toString();
    }

    /** Does this activity alone; answers the reason with which it fails, or 0, and then it is done. It never stays in the plan. */
    static int act(RoverPlanner p, int kind, int a, int b) {
        p.put(0, kind, a, b);
        if (p.run(1) == 1) {
            return 0;
        }
        int reason = p.reason();
        p.remove(0);
        return reason;
    }

    /** A rover with much in its battery, that many minutes (at most 1440) ahead of the end of the time; in its last half day it is warm. */
    static RoverPlanner late(int minutes) {
        RoverPlanner p = new RoverPlanner();
        p.setRover(20000, 800);
        for (int day = 0; day < 9; day++) {
            act(p, 5, 0, 0);
        }
        if (minutes <= 720) {
            act(p, 5, 720, 0);
            act(p, 6, 1, 0);
        }
        if (minutes < 1440 && minutes != 720) {
            act(p, 5, (1440 - minutes) % 1440, 0);
        }
        Due.is("the rover is " + minutes + " ahead of the end: time", 14400 - minutes, p.rover(0));
        return p;
    }
}
