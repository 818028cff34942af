import java.io.IOException;
import java.lang.reflect.InvocationTargetException;
import java.lang.reflect.Method;
import java.nio.file.Files;
import java.nio.file.Path;
import java.util.ArrayList;
import java.util.List;
import java.util.Set;
import java.util.TreeSet;
import java.util.regex.Matcher;
import java.util.regex.Pattern;
import java.util.stream.Stream;

/** What README.md says of how to use the class and how to run its tests is so. Runs in the root of the project. */
public final class ReadmeTest {
    private static final Pattern CALL = Pattern.compile("planner\\.(\\w+)\\((.*)\\); +// (-?\\d+)(:.*)?");
    private static final Pattern COUNT = Pattern.compile("planner\\.count\\((\\d)\\)");

    public static void main(String[] args) throws IOException {
        List<String> lines = Files.readAllLines(Path.of("README.md"));
        example(lines);
        calls(lines);
        kinds(lines);
        reasons(lines);
        tests(lines);
        Due.end("ReadmeTest");
    }

    /** Each call of the example answers what stands behind it. */
    private static void example(List<String> lines) {
        int start = lines.indexOf("RoverPlanner planner = new RoverPlanner();");
        Due.is("there is an example", true, start > 0);
        RoverPlanner planner = new RoverPlanner();
        for (int i = start + 1; !lines.get(i).equals("```"); i++) {
            Matcher call = CALL.matcher(lines.get(i));
            Due.is(lines.get(i) + ": is a call with its answer", true, call.matches());
            Matcher count = COUNT.matcher(call.group(2));
            String parameters = count.replaceAll(m -> String.valueOf(planner.count(Integer.parseInt(m.group(1)))));
            Due.is(lines.get(i), call.group(3), String.valueOf(answer(planner, call.group(1), parameters)));
        }
    }

    private static Object answer(RoverPlanner planner, String name, String parameters) {
        List<Object> values = new ArrayList<>();
        for (String parameter : parameters.split(", ")) {
            if (parameter.equals("true") || parameter.equals("false")) {
                values.add(Boolean.valueOf(parameter));
            } else if (!parameter.isEmpty()) {
                values.add(Integer.valueOf(parameter));
            }
        }
        try {
            for (Method method : RoverPlanner.class.getMethods()) {
                if (method.getName().equals(name)) {
                    return method.invoke(planner, values.toArray());
                }
            }
            return "no such call";
        } catch (IllegalAccessException | InvocationTargetException | IllegalArgumentException e) {
            return e;
        }
    }

    private static List<String[]> rows(List<String> lines, String head) {
        List<String[]> rows = new ArrayList<>();
        int start = lines.indexOf(head);
        Due.is("there is a table " + head, true, start > 0);
        for (int i = start + 2; i < lines.size() && lines.get(i).startsWith("|"); i++) {
            rows.add(lines.get(i).substring(2).split(" *\\| *"));
        }
        return rows;
    }

    private static Set<String> names(String cell) {
        Set<String> names = new TreeSet<>();
        Matcher name = Pattern.compile("`(\\w+)`").matcher(cell);
        while (name.find()) {
            names.add(name.group(1));
        }
        return names;
    }

    private static void calls(List<String> lines) {
        Set<String> told = new TreeSet<>();
        for (String[] row : rows(lines, "| calls | what they are for |")) {
            told.addAll(names(row[0]));
        }
        Set<String> there = new TreeSet<>();
        for (Method method : RoverPlanner.class.getDeclaredMethods()) {
            if (java.lang.reflect.Modifier.isPublic(method.getModifiers())) {
                there.add(method.getName());
            }
        }
        Due.is("the calls of the table", there, told);
    }

    private static void kinds(List<String> lines) throws IOException {
        String document = Files.readString(Path.of("../shared/DOC.md"));
        int due = 0;
        for (String[] row : rows(lines, "| kind | activity | a, b |")) {
            Due.is("the kind of " + row[1], String.valueOf(due), row[0]);
            Due.is(row[0] + " " + row[1] + ": stands in the document", true, document.contains(row[0] + " " + row[1]));
            due++;
        }
        Due.is("how many kinds there are", 8, due);
    }

    /** Each reason, by an activity that fails with it. */
    private static void reasons(List<String> lines) {
        List<String[]> rows = rows(lines, "| `reason()` | why an activity fails |");
        Due.is("how many reasons there are", 7, rows.size());
        for (int reason = 1; reason <= 7; reason++) {
            Due.is("reason " + reason, String.valueOf(reason), rows.get(reason - 1)[0]);
        }
        RoverPlanner p = new RoverPlanner();
        p.pave(5, 5, 5, 5, 0, true);
        Due.is(rows.get(0)[1], 1, Edge.act(p, Kinds.DRIVE, 5, 5));
        p.addTarget(0, 0, 1, 1);
        p.addTarget(7, 0, 1, 1);
        Due.is(rows.get(4)[1], 5, Edge.act(p, Kinds.IMAGE, 1, 5));
        Due.is(rows.get(5)[1], 6, Edge.act(p, Kinds.SEND, 1, 0));
        p.setRover(4000, 89);
        Due.is(rows.get(3)[1], 4, Edge.act(p, Kinds.TOUCH, 0, 5));
        p.setRover(100, 800);
        Due.is(rows.get(1)[1], 2, Edge.act(p, Kinds.WAIT, 300, 0));
        Due.is(rows.get(6)[1], 7, Edge.act(Edge.late(100), Kinds.WAIT, 300, 0));
        RoverPlanner cold = new RoverPlanner();
        cold.addTarget(0, 0, 1, 1);
        Due.is("a night asleep", 0, Edge.act(cold, Kinds.SLEEP, 300, 0));
        Due.is("it is below -50 then", true, cold.rover(4) < -50);
        Due.is(rows.get(2)[1], 3, Edge.act(cold, Kinds.DRIVE, 1, 0));
        Due.is(rows.get(2)[1], 3, Edge.act(cold, Kinds.IMAGE, 0, 5));
        Due.is(rows.get(2)[1], 3, Edge.act(cold, Kinds.TOUCH, 0, 5));
    }

    private static void tests(List<String> lines) throws IOException {
        Due.is("how the tests are run", true, lines.contains("    bash .ci/run"));
        Due.is(".ci/run can be executed", true, Files.isExecutable(Path.of(".ci/run")));
        Set<String> told = new TreeSet<>();
        for (String[] row : rows(lines, "| test | what it looks at |")) {
            told.addAll(names(row[0]));
        }
        Set<String> there = new TreeSet<>();
        try (Stream<Path> files = Files.list(Path.of("src/test/java"))) {
            files.map(file -> file.getFileName().toString()).filter(name -> name.endsWith("Test.java"))
                .forEach(name -> there.add(name.substring(0, name.length() - 5)));
        }
        Due.is("the tests of the table", there, told);
    }
}
