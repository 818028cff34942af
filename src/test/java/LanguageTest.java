import java.io.IOException;
import java.lang.reflect.Constructor;
import java.lang.reflect.Field;
import java.lang.reflect.Method;
import java.lang.reflect.Modifier;
import java.nio.file.Files;
import java.nio.file.Path;
import java.util.List;
import java.util.Set;
import java.util.TreeSet;
import java.util.regex.Matcher;
import java.util.regex.Pattern;

/** The face of the document, and what of ../shared/LANGUAGE.md can be seen from outside. Runs in the root of the project. */
public final class LanguageTest {
    private static final String RANGE = " IndexOutOfBoundsException";
    private static final String ARGUMENT = " IllegalArgumentException";
    private static final String STATE = " IllegalStateException";
    private static final Set<String> FACE = Set.of(
        "int raise int int int int int" + ARGUMENT, "int pave int int int int int boolean" + ARGUMENT, "int ground int int int" + RANGE,
        "int setSlope int" + ARGUMENT, "int way int int int int int" + RANGE, "boolean sees int int int int" + RANGE,
        "int addTarget int int int int" + RANGE + ARGUMENT + STATE, "int target int int" + RANGE, "int addPass int int int" + ARGUMENT + STATE,
        "int rate int" + ARGUMENT, "int sky int boolean" + ARGUMENT, "int setRover int int" + ARGUMENT + STATE, "int rover int" + RANGE,
        "int piece int int" + RANGE, "int score", "int put int int int int" + RANGE + ARGUMENT + STATE, "int remove int" + RANGE,
        "int move int int" + RANGE, "int activity int int" + RANGE, "int count int" + RANGE, "int check", "int reason",
        "int foretell int int" + RANGE + ARGUMENT + STATE, "int run int" + ARGUMENT, "int make int" + ARGUMENT, "int nearest int" + RANGE,
        "int mark" + STATE, "int back int" + RANGE, "double sent", "long digest");
    private static final Set<String> LIBRARY = Set.of("Math.max", "Math.min", "Math.abs", "Math.floorDiv", "Math.floorMod", "Integer.compare", "Integer.bitCount");
    private static final List<String> WORDS = List.of("import", "package", "try", "catch", "finally", "synchronized", "assert", "protected",
        "System", "Object", "String", "Arrays", "var", "yield", "volatile", "transient", "native", "strictfp", "instanceof");

    public static void main(String[] args) throws IOException {
        face();
        members();
        classes();
        source();
        Due.end("LanguageTest");
    }

    private static String told(Method m) {
        StringBuilder told = new StringBuilder(m.getReturnType().getSimpleName()).append(' ').append(m.getName());
        for (Class<?> type : m.getParameterTypes()) {
            told.append(' ').append(type.getSimpleName());
        }
        for (Class<?> type : m.getExceptionTypes()) {
            told.append(' ').append(type.getSimpleName());
        }
        return told.toString();
    }

    private static void face() {
        Set<String> found = new TreeSet<>();
        for (Method m : RoverPlanner.class.getDeclaredMethods()) {
            if (!Modifier.isPrivate(m.getModifiers()) && !m.isSynthetic()) {
                Due.is(m.getName() + " is public and no more", Modifier.PUBLIC, m.getModifiers());
                found.add(told(m));
            }
        }
        Due.is("the methods of the face", new TreeSet<>(FACE), found);
        Due.is("the class", Modifier.PUBLIC | Modifier.FINAL, RoverPlanner.class.getModifiers());
        Constructor<?>[] makers = RoverPlanner.class.getDeclaredConstructors();
        Due.is("one constructor", 1, makers.length);
        Due.is("it is public, without parameters", Modifier.PUBLIC, makers[0].getModifiers() + makers[0].getParameterCount());
        Due.is("no package", "", RoverPlanner.class.getPackageName());
    }

    private static void members() {
        for (Field f : RoverPlanner.class.getDeclaredFields()) {
            Due.is(f.getName() + " is private", true, Modifier.isPrivate(f.getModifiers()));
        }
        Set<String> names = new TreeSet<>();
        for (String told : FACE) {
            names.add(told.split(" ")[1]);
        }
        Due.is("names of the face", 30, names.size());
        for (Method m : RoverPlanner.class.getDeclaredMethods()) {
            if (Modifier.isPrivate(m.getModifiers())) {
                Due.is(m.getName() + " bears the name of a public method", false, names.contains(m.getName()));
            }
        }
        for (Class<?> inner : RoverPlanner.class.getDeclaredClasses()) {
            for (Method m : inner.getDeclaredMethods()) {
                Due.is(inner.getName() + "." + m.getName() + " bears the name of a public method", false, names.contains(m.getName()));
                Due.is(inner.getName() + "." + m.getName() + " takes at most seven", true, m.getParameterCount() <= 7);
            }
        }
    }

    private static void classes() {
        Class<?>[] inner = RoverPlanner.class.getDeclaredClasses();
        Due.is("at most twelve classes", true, inner.length + 1 <= 12);
        for (Class<?> c : inner) {
            Due.is(c.getName() + " is static", true, Modifier.isStatic(c.getModifiers()) && !Modifier.isPublic(c.getModifiers()));
            fields(c);
        }
        fields(RoverPlanner.class);
    }

    private static void fields(Class<?> c) {
        int number = 0;
        for (Field f : c.getDeclaredFields()) {
            if (!Modifier.isStatic(f.getModifiers())) {
                number++;
            } else if (!f.isSynthetic()) {
                Due.is(f.getName() + " is final", true, Modifier.isFinal(f.getModifiers()));
            }
        }
        Due.is(c.getName() + " has at most twenty fields", true, number <= 20);
    }

    private static void source() throws IOException {
        String source = Files.readString(Path.of("src/main/java/RoverPlanner.java"));
        Due.is("signs are 1 to 127", true, source.chars().allMatch(sign -> sign > 0 && sign < 128));
        String code = source.replaceAll("(?s)/\\*.*?\\*/", "").replaceAll("//[^\\n]*", "");
        for (String word : WORDS) {
            Due.is("the word " + word, false, Pattern.compile("\\b" + word + "\\b").matcher(code).find());
        }
        Due.is("a lambda or a method reference", false, code.contains("->") || code.contains("::"));
        Matcher calls = Pattern.compile("\\b(Math|Integer|Long)\\.(\\w+)").matcher(code);
        while (calls.find()) {
            Due.is(calls.group() + " is in the library", true, LIBRARY.contains(calls.group()));
        }
        Matcher thrown = Pattern.compile("\\bthrow\\b[^;]*;").matcher(code);
        while (thrown.find()) {
            Due.is(thrown.group(), true, thrown.group().matches("throw new (IllegalState|IllegalArgument|IndexOutOfBounds)Exception\\(\"[^\"]+\"\\);"));
        }
        Matcher loops = Pattern.compile("\\b(while|do)\\b").matcher(code);
        Due.is("a loop whose end cannot be seen", false, loops.find());
        longMethods(code);
    }

    private static void longMethods(String code) {
        int start = 0;
        String[] lines = code.split("\n");
        for (int i = 0; i < lines.length; i++) {
            if (lines[i].matches(" {4}( {4})?(public |private |static )*\\w+(\\[\\])?( \\w+)?\\(.*\\{")) {
                start = i;
            } else if (lines[i].matches(" {4}( {4})?\\}")) {
                Due.is("line " + (i + 1) + " ends a method of at most sixty lines", true, i - start <= 60 || lines[i].matches(" {4}\\}"));
            }
        }
    }
}
