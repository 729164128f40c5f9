import java.io.IOException;
import java.lang.reflect.Constructor;
import java.lang.reflect.Field;
import java.lang.reflect.Method;
import java.lang.reflect.Modifier;
import java.nio.file.Files;
import java.nio.file.Path;
import java.util.Arrays;
import java.util.List;
import java.util.Map;
import java.util.Set;
import java.util.TreeMap;
import java.util.TreeSet;
import java.util.regex.Matcher;
import java.util.regex.Pattern;

/** The face of the class, and those rules of LANGUAGE.md that can be seen from its text. */
public final class RulesTest {
    private static final String FACE = "ahead(2) as(2) ask(2) best(1) cell(2) copy(5) count(1) drawn(3) drop(1) "
        + "earned(1) fault(0) feed(1) fits(5) image(1) kind(1) left(3) map(0) move(2) pin(2) restore(1) right(1) "
        + "round(0) row(3) set(3) slip(1) status(0) swap(2) times(1) tomsk(2) trace(1) undo(0) work(2)";
    private static final List<String> WORDS_LEFT_OUT = List.of("throw", "throws", "try", "catch", "synchronized",
        "assert", "import", "package", "null", "System.out", "volatile", "native", "sealed", "hashCode", "toString");

    public static void main(String[] args) throws IOException {
        face();
        constants();
        classesInside();
        String code = code(Files.readString(Path.of("src/main/java/PinBoards.java")));
        words(code);
        loops(code);
        methodLengths(code);
        callDepths(code);
        Script.end();
    }

    private static void face() {
        TreeSet<String> face = new TreeSet<>();
        TreeSet<String> names = new TreeSet<>();
        for (Method m : PinBoards.class.getDeclaredMethods()) {
            if (!Modifier.isPrivate(m.getModifiers())) {
                Script.due(m + " answers an int", m.getReturnType() == int.class, true);
                Script.due(m + " is public", Modifier.isPublic(m.getModifiers()), true);
                Script.due(m + " is not static", Modifier.isStatic(m.getModifiers()), false);
                Script.due(m + " takes ints", Arrays.stream(m.getParameterTypes()).allMatch(t -> t == int.class), true);
                face.add(m.getName() + "(" + m.getParameterCount() + ")");
                names.add(m.getName());
            }
        }
        Script.due("the face", String.join(" ", face), FACE);
        Script.due("the class is public and final",
            PinBoards.class.getModifiers() & (Modifier.PUBLIC | Modifier.FINAL), Modifier.PUBLIC | Modifier.FINAL);
        for (Class<?> c : allClasses()) {
            for (Method m : c.getDeclaredMethods()) {
                if (!Modifier.isPublic(m.getModifiers())) {
                    Script.due(m + " bears a name of the face", names.contains(m.getName()), false);
                }
            }
        }
    }

    private static void constants() {
        Script.due("NONE", PinBoards.NONE, -1000000);
        Script.due("BAD", PinBoards.BAD, -1000001);
        Script.due("STATE", PinBoards.STATE, -1000002);
        Script.due("FULL", PinBoards.FULL, -1000003);
        TreeSet<String> open = new TreeSet<>();
        for (Field f : PinBoards.class.getDeclaredFields()) {
            if (!Modifier.isPrivate(f.getModifiers())) {
                open.add(f.getName());
            }
        }
        Script.due("constants of the face", open.toString(), "[BAD, FULL, NONE, STATE]");
        Constructor<?>[] constructors = PinBoards.class.getDeclaredConstructors();
        Script.due("constructors", constructors.length, 1);
        Script.due("of how many arguments", constructors[0].getParameterCount(), 0);
    }

    private static List<Class<?>> allClasses() {
        List<Class<?>> all = new java.util.ArrayList<>(List.of(PinBoards.class.getDeclaredClasses()));
        all.add(PinBoards.class);
        return all;
    }

    private static void classesInside() {
        Script.due("twelve classes at most", allClasses().size() <= 12, true);
        for (Class<?> c : allClasses()) {
            int fields = 0;
            for (Field f : c.getDeclaredFields()) {
                boolean fixed = Modifier.isStatic(f.getModifiers());
                Script.due(f + " is final, if static", !fixed || Modifier.isFinal(f.getModifiers()), true);
                fields += fixed ? 0 : 1;
            }
            Script.due(c + " has twenty fields at most", fields <= 20, true);
            boolean inside = c != PinBoards.class;
            Script.due(c + " is static", !inside || Modifier.isStatic(c.getModifiers()), true);
            Script.due(c + " is not public", inside && Modifier.isPublic(c.getModifiers()), false);
            for (Method m : c.getDeclaredMethods()) {
                Script.due(m + " takes seven at most", m.getParameterCount() <= 7, true);
            }
        }
    }

    private static String code(String text) {
        return text.replaceAll("(?s)/\\*.*?\\*/", "").replaceAll("//.*", "").replaceAll("'.'", "0");
    }

    private static void words(String code) {
        for (String word : WORDS_LEFT_OUT) {
            String pattern = "(?s).*\\b" + Pattern.quote(word) + "\\b.*";
            Script.due("it has the word " + word, code.matches(pattern), false);
        }
        Script.due("it has a lambda", code.contains("->"), false);
        Script.due("it has a method reference", code.contains("::"), false);
        Script.due("it has a text", code.contains("\""), false);
        Script.due("it has signs above 127", code.chars().anyMatch(c -> c > 127), false);
        Matcher library = Pattern.compile("\\b([A-Z][a-z]\\w*)\\.(\\w+)\\(").matcher(code);
        while (library.find()) {
            String call = library.group(1) + "." + library.group(2);
            boolean known = List.of("System.arraycopy", "Integer.bitCount", "Math.min").contains(call);
            Script.due(call + " is of the library that is left", known, true);
        }
    }

    /** Every loop is a for with a bound; what is made is made by constructors alone. */
    private static void loops(String code) {
        Script.due("while", Pattern.compile("\\bwhile\\b").matcher(code).find(), false);
        Script.due("do", Pattern.compile("\\bdo\\b").matcher(code).find(), false);
        Matcher loop = Pattern.compile("for \\(([^;]*);([^;]*);").matcher(code);
        while (loop.find()) {
            Script.due("a bound in " + loop.group(), loop.group(2).contains("<"), true);
        }
        for (String line : code.split("\n")) {
            if (line.matches(".*\\bnew\\b.*")) {
                boolean made = line.matches("\\s*(private )?final .*") || line.matches("\\s*(images|before)\\[k\\] = .*");
                Script.due("made by a constructor: " + line.trim(), made, true);
            }
        }
    }

    private static boolean beginsMethod(String line) {
        return line.matches("\\s+[\\w\\[\\] ]+\\(.*\\) \\{") && !line.matches("\\s+(if|for|switch|} else).*");
    }

    private static void methodLengths(String code) {
        int length = 0;
        int depth = 0;
        for (String line : code.split("\n")) {
            if (beginsMethod(line)) {
                length = 0;
                depth++;
            }
            length++;
            Script.due("a method of 60 lines at most, at " + line, depth > 0 && length > 60 && !line.isBlank()
                && !line.matches("    }|}|    private static final class.*"), false);
        }
        Script.due("methods were seen", depth > 60, true);
    }

    /** No two methods share a name, so that a name tells which one is called. */
    private static void callDepths(String code) {
        Map<String, Set<String>> calls = new TreeMap<>();
        for (String line : code.split("\n")) {
            if (beginsMethod(line)) {
                String name = line.replaceAll("^(.*?)(\\w+)\\(.*", "$2");
                Script.due("a method of the name " + name + " alone", calls.put(name, new TreeSet<>()) == null, true);
            }
        }
        String in = "";
        Pattern call = Pattern.compile("\\b(\\w+)\\(");
        for (String line : code.split("\n")) {
            if (beginsMethod(line)) {
                in = line.replaceAll("^(.*?)(\\w+)\\(.*", "$2");
                continue;
            }
            Matcher called = call.matcher(line);
            while (called.find()) {
                if (calls.containsKey(called.group(1)) && !in.isEmpty()) {
                    calls.get(in).add(called.group(1));
                }
            }
        }
        for (String name : calls.keySet()) {
            Script.due(name + " calls eight deep at most", depth(calls, name, 1) <= 8, true);
        }
    }

    /** A method that calls itself, by others too, comes out as nine deep. */
    private static int depth(Map<String, Set<String>> calls, String name, int above) {
        int deepest = above;
        for (String called : calls.get(name)) {
            deepest = Math.max(deepest, above > 8 ? above : depth(calls, called, above + 1));
        }
        return deepest;
    }
}
