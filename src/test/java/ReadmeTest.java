import java.io.IOException;
import java.lang.reflect.Method;
import java.lang.reflect.Modifier;
import java.nio.file.Files;
import java.nio.file.Path;
import java.util.Set;
import java.util.TreeSet;
import java.util.regex.Matcher;
import java.util.regex.Pattern;

/** What README.md shows of the class: each call answers, one after the other, what stands behind it. */
public final class ReadmeTest {
    private static final Pattern CALL = Pattern.compile("boards\\.(\\w+)\\((.*?)\\);\\s+// (-?\\w+).*");
    private static final Pattern FED = Pattern.compile("for \\(char letter : \"(.*)\"\\.toCharArray\\(\\)\\) \\{");

    private static final Set<String> called = new TreeSet<>();

    public static void main(String[] args) throws IOException {
        PinBoards boards = new PinBoards();
        boolean shown = false;
        for (String line : Files.readString(Path.of("README.md")).split("\n")) {
            if (line.startsWith("```")) {
                shown = line.equals("```java");
            } else if (shown) {
                read(boards, line.trim());
            }
        }
        called.add("feed");
        Script.due("the calls that are shown", called, face());
        Script.end();
    }

    private static void read(PinBoards boards, String line) {
        Matcher fed = FED.matcher(line);
        Matcher call = CALL.matcher(line);
        if (fed.matches()) {
            Script.feed(boards, fed.group(1));
        } else if (call.matches()) {
            called.add(call.group(1));
            String words = (call.group(1) + " " + call.group(2).replace(",", "")).trim();
            Script.due(line, Script.answer(boards, words.split(" +")), Script.number(call.group(3)));
        } else {
            boolean known = Set.of("PinBoards boards = new PinBoards();", "boards.feed(letter);", "}").contains(line);
            Script.due("a line that tells an answer: " + line, known, true);
        }
    }

    private static Set<String> face() {
        Set<String> names = new TreeSet<>();
        for (Method method : PinBoards.class.getDeclaredMethods()) {
            if (Modifier.isPublic(method.getModifiers())) {
                names.add(method.getName());
            }
        }
        return names;
    }
}
