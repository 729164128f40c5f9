import java.lang.reflect.InvocationTargetException;
import java.lang.reflect.Method;
import java.util.HashMap;
import java.util.Map;

/**
 * Runs calls told as lines, on a new object for each script: "move 0 3 = 1", or several answers of
 * one call with its last argument going up from 0: "pin 0 .. = 0 3 1 NONE 0".
 * "text m3;c5;" feeds the bytes of a text; what stands behind # is a comment.
 */
final class Script {
    private static final Map<String, Method> CALLS = new HashMap<>();
    private static int wrong = 0;
    private static int checked = 0;

    static {
        for (Method m : PinBoards.class.getMethods()) {
            if (m.getDeclaringClass() == PinBoards.class) {
                CALLS.put(m.getName(), m);
            }
        }
    }

    private Script() {
    }

    static PinBoards run(String title, String lines) {
        PinBoards boards = new PinBoards();
        for (String raw : lines.split("\n")) {
            String line = raw.replaceAll("#.*", "").trim();
            if (line.startsWith("text ")) {
                feed(boards, line.substring(5));
            } else if (!line.isEmpty()) {
                runLine(title, boards, line);
            }
        }
        return boards;
    }

    static void feed(PinBoards boards, String text) {
        for (int i = 0; i < text.length(); i++) {
            boards.feed(text.charAt(i));
        }
    }

    /** Reads a text on a new object and says where and of which number the fault is due. */
    static void fault(String text, int place, int number) {
        PinBoards boards = new PinBoards();
        feed(boards, text);
        due("map of " + text, boards.map(), -1000100 - place);
        due("fault of " + text, boards.fault(), number);
        due("tape after " + text, boards.count(9), 0);
        due("cells after " + text, boards.count(1), 0);
    }

    private static void runLine(String title, PinBoards boards, String line) {
        String[] sides = line.split("=");
        if (sides.length != 2) {
            throw new IllegalStateException(title + ": no such line: " + line);
        }
        String[] call = sides[0].trim().split(" +");
        String[] due = sides[1].trim().split(" +");
        boolean many = call[call.length - 1].equals("..");
        for (int k = 0; k < due.length; k++) {
            if (many) {
                call[call.length - 1] = String.valueOf(k);
            }
            String told = title + ": " + String.join(" ", call);
            due(told, answer(boards, call), number(due[k]));
        }
    }

    static Object answer(PinBoards boards, String[] call) {
        Method method = CALLS.get(call[0]);
        Object[] args = new Object[call.length - 1];
        for (int i = 0; i < args.length; i++) {
            args[i] = number(call[i + 1]);
        }
        try {
            return method.invoke(boards, args);
        } catch (InvocationTargetException e) {
            return e.getCause();
        } catch (IllegalAccessException e) {
            throw new IllegalStateException(e);
        }
    }

    static int number(String word) {
        switch (word) {
            case "NONE": return -1000000;
            case "BAD": return -1000001;
            case "STATE": return -1000002;
            case "FULL": return -1000003;
            case "NULL": return -1000011;
            case "PLACE": return -1000012;
            case "KIND": return -1000013;
            case "SIZE": return -1000014;
            case "STORE": return -1000015;
            case "MIN": return Integer.MIN_VALUE;
            case "MAX": return Integer.MAX_VALUE;
            default: return Integer.parseInt(word);
        }
    }

    static void due(String told, Object got, Object want) {
        checked++;
        if (!want.equals(got)) {
            wrong++;
            System.out.println(told + " answered " + got + ", due is " + want);
        }
    }

    static void end() {
        System.out.println(checked + " answers, " + wrong + " of them not as due");
        if (wrong != 0) {
            System.exit(1);
        }
    }
}
