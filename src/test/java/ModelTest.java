import java.util.ArrayList;
import java.util.List;
import java.util.Random;

/** Runs of 512 drawn calls each: the class must answer as the Model does, to every one. */
public final class ModelTest {
    private static final int RUNS = 600, CALLS = 512;
    private static final String[] NAMES = {
        "row", "set", "set", "copy", "drop", "map", "fault", "times", "times", "move", "move", "swap", "swap", "swap",
        "work", "slip", "undo", "undo", "pin", "pin", "cell", "ahead", "earned", "tomsk", "round", "right", "right",
        "best", "fits", "fits", "fits", "left", "drawn", "image", "restore", "kind", "as", "ask", "trace", "count",
        "status", "status", "told"
    };
    private static final int[] FAR = {-1, Integer.MIN_VALUE, Integer.MAX_VALUE, 1000000, -1000000, 41, 256, 61};

    private final Random random;
    private final PinBoards boards = new PinBoards();
    private final Model model = new Model();
    private final int run;
    private int calls = 0;

    private ModelTest(int run) {
        this.run = run;
        random = new Random(run);
    }

    public static void main(String[] args) {
        for (int run = 0; run < RUNS; run++) {
            new ModelTest(run).go();
        }
        Script.end();
    }

    private void go() {
        if (random.nextInt(8) > 0) {
            readMap(text(random.nextInt(5) == 0));
        }
        while (calls < CALLS) {
            String name = NAMES[random.nextInt(NAMES.length)];
            if (name.equals("told")) {
                tellTrueRow();
            } else if (name.equals("map")) {
                if (random.nextInt(4) == 0) {
                    readMap(random.nextInt(3) == 0 ? text(false) : spoilt(text(random.nextInt(3) == 0)));
                }
            } else {
                drawCall(name);
            }
        }
        for (int what = 0; what < 10; what++) {
            call("count", what);
        }
    }

    private int call(String name, int... args) {
        calls++;
        String[] words = new String[args.length + 1];
        words[0] = name;
        for (int i = 0; i < args.length; i++) {
            words[i + 1] = String.valueOf(args[i]);
        }
        int due = model.call(name, args);
        Object got = Script.answer(boards, words);
        Script.due("run " + run + ", call " + calls + ": " + String.join(" ", words), got, due);
        return due;
    }

    private int upTo(int most) {
        if (random.nextInt(60) == 0) {
            return FAR[random.nextInt(FAR.length)];
        }
        return random.nextInt(40) == 0 ? most + 1 : random.nextInt(most + 1);
    }

    private int pin() {
        return upTo(Math.max(0, model.call("count", 2) - 1));
    }

    private int cell() {
        return upTo(Math.max(0, model.call("count", 1) - 1));
    }

    private int value() {
        return random.nextInt(3) == 0 ? random.nextInt() : random.nextInt(18) - 1;
    }

    private int seed() {
        return random.nextInt(20) == 0 ? 0 : 1 + upTo(999998);
    }

    private void drawCall(String name) {
        switch (name) {
            case "row": call(name, upTo(3), upTo(2), random.nextInt(10) == 0 ? upTo(40) : upTo(12)); break;
            case "set": call(name, upTo(3), upTo(12), value()); break;
            case "copy": call(name, upTo(3), upTo(8), upTo(3), upTo(8), upTo(6)); break;
            case "drop": call(name, upTo(7)); break;
            case "times": call(name, random.nextInt(3) > 0 ? 1 + upTo(2) : upTo(24)); break;
            case "move": call(name, pin(), cell()); break;
            case "swap": call(name, pin(), pin()); break;
            case "work": call(name, cell(), upTo(9)); break;
            case "slip": call(name, upTo(15)); break;
            case "pin": call(name, pin(), upTo(4)); break;
            case "cell": call(name, cell(), upTo(2)); break;
            case "ahead": call(name, pin(), random.nextBoolean() ? upTo(60) : upTo(5)); break;
            case "earned": call(name, upTo(60)); break;
            case "tomsk": call(name, pin(), cell()); break;
            case "right": call(name, upTo(1)); break;
            case "best": call(name, pin() - random.nextInt(2)); break;
            case "fits": call(name, pin(), upTo(3), upTo(3), 1 + upTo(2), upTo(3)); break;
            case "left": call(name, cell(), upTo(10), upTo(1)); break;
            case "drawn": call(name, upTo(30), seed(), upTo(1)); break;
            case "image": call(name, upTo(1)); break;
            case "restore": call(name, upTo(4) % 2); break;
            case "kind": call(name, pin()); break;
            case "as": call(name, pin(), upTo(5)); break;
            case "ask": drawAsk(); break;
            case "trace": call(name, upTo(16)); break;
            case "count": call(name, upTo(9)); break;
            default: call(name); break;
        }
    }

    private void drawAsk() {
        call("ask", pin(), upTo(1));
        for (int i = 0; i < 7; i++) {
            call("trace", i);
        }
    }

    /** A row of the cells in which a pin is indeed, so that fits has something to find. */
    private void tellTrueRow() {
        int pin = random.nextInt(7);
        if (model.call("count", 2) <= pin) {
            return;
        }
        int first = model.call("count", 4) == 1 ? 2 : 1;
        int n = 1 + random.nextInt(6);
        call("row", 0, random.nextInt(3), n + 2);
        for (int k = 0; k < n; k++) {
            call("set", 0, k + 1, model.call("ahead", pin, first + 2 * k));
        }
        for (int what = 0; what < 4; what++) {
            call("fits", random.nextInt(4) == 0 ? random.nextInt(7) : pin, 0, 1, n, what);
        }
    }

    private void readMap(String text) {
        for (int i = 0; i < text.length(); i++) {
            call("feed", text.charAt(i));
        }
        call("map");
        call("fault");
    }

    private String text(boolean large) {
        StringBuilder text = new StringBuilder("m" + random.nextInt(16) + ";");
        int cells = large ? 10 + random.nextInt(7) : 4 + random.nextInt(6);
        List<Integer> free = new ArrayList<>();
        for (int cell = 0; cell < cells; cell++) {
            text.append('c').append(random.nextInt(10)).append(';');
            free.add(cell);
        }
        int colours = 1 + random.nextInt(4);
        int most = 1 + random.nextInt(9);
        int pins = random.nextInt(10) == 0 ? random.nextInt(2) : 2 + random.nextInt(6);
        for (int pin = 0; pin < pins && !free.isEmpty(); pin++) {
            text.append("asrowssr".charAt(random.nextInt(8))).append(free.remove(random.nextInt(free.size())));
            text.append(',').append(1 + random.nextInt(most)).append(',').append(random.nextInt(colours)).append(';');
        }
        return text.toString();
    }

    private String spoilt(String text) {
        StringBuilder made = new StringBuilder(text);
        for (int k = random.nextInt(2); k >= 0; k--) {
            int place = random.nextInt(made.length());
            char other = "asrowmcx,;0123456789 A".charAt(random.nextInt(22));
            switch (random.nextInt(4)) {
                case 0: made.setCharAt(place, other); break;
                case 1: made.insert(place, other); break;
                case 2: made.deleteCharAt(place); break;
                default: made.setLength(Math.max(1, place)); break;
            }
        }
        return made.toString();
    }
}
