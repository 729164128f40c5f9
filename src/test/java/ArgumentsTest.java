/**
 * Each number that each call is given, by itself: its least and its most are taken, one less, one more and
 * those that wrap around are not. In each line: the call with numbers that are taken, which of them becomes
 * another, its least and its most, the answer below them and above.
 */
public final class ArgumentsTest {
    private static final String BY_DAY = """
        text m2;c5;c0;c9;c2;c3;s0,3,1;o2,5,1;r4,2,1;w1,4,0;
        map = 4
        row 0 0 20 = 20
        row 1 0 20 = 20
        row 2 0 20 = 20
        row 3 0 20 = 20
        row 4 0 20 = 20
        row 5 0 20 = 20
        row 6 0 20 = 20
        row 7 0 20 = 20
        image 0 = 1
        image 1 = 1
        move 0 3 = 0
        """;
    private static final String BY_NIGHT = BY_DAY + "times 1 = 0\n";

    private static final String AT_ANY_TIME = """
        row 0 0 1 | 0 | 0 7 | BAD BAD
        row 0 0 1 | 1 | 0 2 | BAD BAD
        row 0 0 1 | 2 | 0 40 | SIZE BAD
        set 0 0 1 | 0 | 0 7 | BAD BAD
        set 0 0 1 | 1 | 0 19 | PLACE PLACE
        copy 0 2 1 3 4 | 0 | 0 7 | BAD BAD
        copy 0 2 1 3 4 | 1 | 0 16 | PLACE PLACE
        copy 0 2 1 3 4 | 2 | 0 7 | BAD BAD
        copy 0 2 1 3 4 | 3 | 0 16 | PLACE PLACE
        copy 0 2 1 3 4 | 4 | 0 17 | PLACE PLACE
        copy 0 4 1 3 4 | 4 | 0 16 | PLACE PLACE
        copy 0 2 0 3 4 | 4 | 0 17 | PLACE PLACE
        drop 0 | 0 | 0 7 | BAD BAD
        feed 0 | 0 | 0 255 | BAD BAD
        times 1 | 0 | 1 24 | BAD BAD
        work 0 0 | 0 | 0 4 | BAD BAD
        work 0 0 | 1 | 0 9 | BAD BAD
        slip 0 | 0 | 0 15 | BAD BAD
        pin 0 0 | 0 | 0 3 | BAD BAD
        pin 0 0 | 1 | 0 4 | BAD BAD
        cell 0 0 | 0 | 0 4 | BAD BAD
        cell 0 0 | 1 | 0 2 | BAD BAD
        ahead 0 0 | 0 | 0 3 | BAD BAD
        ahead 0 0 | 1 | 0 60 | BAD BAD
        earned 0 | 0 | 0 60 | BAD BAD
        tomsk 0 0 | 0 | 0 3 | BAD BAD
        tomsk 0 0 | 1 | 0 4 | BAD BAD
        right 0 | 0 | 0 1 | BAD BAD
        best 0 | 0 | -1 3 | BAD BAD
        fits 0 0 0 1 0 | 0 | 0 3 | BAD BAD
        fits 0 0 0 1 0 | 1 | 0 7 | BAD BAD
        fits 0 0 0 1 0 | 2 | 0 19 | PLACE PLACE
        fits 0 0 0 12 0 | 2 | 0 8 | PLACE PLACE
        fits 0 0 0 1 0 | 3 | 1 12 | BAD BAD
        fits 0 0 0 1 0 | 4 | 0 3 | BAD BAD
        left 0 0 0 | 0 | 0 4 | BAD BAD
        left 0 0 0 | 1 | 0 10 | BAD BAD
        left 0 0 0 | 2 | 0 1 | BAD BAD
        drawn 0 1 0 | 0 | 0 30 | BAD BAD
        drawn 0 1 0 | 1 | 1 999999 | BAD BAD
        drawn 0 1 0 | 2 | 0 1 | BAD BAD
        image 0 | 0 | 0 1 | BAD BAD
        restore 0 | 0 | 0 1 | BAD BAD
        kind 0 | 0 | 0 3 | BAD BAD
        as 0 0 | 0 | 0 3 | BAD BAD
        ask 0 0 | 0 | 0 3 | BAD BAD
        ask 0 0 | 1 | 0 1 | BAD BAD
        count 0 | 0 | 0 9 | BAD BAD
        """;
    private static final String DAY_ALONE = """
        move 3 0 | 0 | 0 3 | BAD BAD
        move 0 0 | 1 | 0 4 | BAD BAD
        swap 0 3 | 0 | 0 2 | BAD BAD
        swap 3 0 | 0 | 1 3 | BAD BAD
        swap 0 3 | 1 | 1 3 | BAD BAD
        swap 3 0 | 1 | 0 2 | BAD BAD
        """;

    public static void main(String[] args) {
        check(BY_DAY, AT_ANY_TIME + DAY_ALONE);
        check(BY_NIGHT, AT_ANY_TIME);
        byNight();
        traceAndItems();
        Script.end();
    }

    private static void check(String ahead, String lines) {
        for (String line : lines.split("\n")) {
            String[] parts = line.split("\\|");
            String[] call = parts[0].trim().split(" +");
            int which = 1 + Script.number(parts[1].trim());
            String[] bounds = parts[2].trim().split(" +");
            String[] answers = parts[3].trim().split(" +");
            int least = Script.number(bounds[0]);
            int most = Script.number(bounds[1]);
            for (int v : new int[] {least, (least + most) / 2, most}) {
                taken(ahead, call, which, v);
            }
            for (int v : new int[] {least - 1, least - 256, Integer.MIN_VALUE, Integer.MIN_VALUE + 1}) {
                refused(ahead, call, which, v, answers[0]);
            }
            for (int v : new int[] {most + 1, most + 256, Integer.MAX_VALUE - 1, Integer.MAX_VALUE}) {
                refused(ahead, call, which, v, answers[1]);
            }
        }
    }

    private static Object answer(String ahead, String[] call, int which, int v) {
        String[] words = call.clone();
        words[which] = String.valueOf(v);
        return Script.answer(Script.run("ahead", ahead), words);
    }

    private static String told(String[] call, int which, int v) {
        String[] words = call.clone();
        words[which] = String.valueOf(v);
        return String.join(" ", words);
    }

    private static void taken(String ahead, String[] call, int which, int v) {
        Object got = answer(ahead, call, which, v);
        boolean taken = got instanceof Integer && (int) got >= PinBoards.NONE;
        Script.due(told(call, which, v) + " is taken, not " + got, taken, true);
    }

    private static void refused(String ahead, String[] call, int which, int v, String due) {
        Script.due(told(call, which, v), answer(ahead, call, which, v), Script.number(due));
    }

    /** By night what is moved by hand is refused in another way, but BAD comes first. */
    private static void byNight() {
        Script.run("moves by night", BY_NIGHT + """
            move 0 0 = STATE
            move 3 4 = STATE
            move -1 0 = BAD
            move 4 0 = BAD
            move 0 -1 = BAD
            move 0 5 = BAD
            move MIN MAX = BAD
            swap 0 3 = STATE
            swap 3 0 = STATE
            swap 3 3 = BAD
            swap -1 0 = BAD
            swap 0 4 = BAD
            swap MAX MIN = BAD
            """);
    }

    private static void traceAndItems() {
        Script.run("KINDS to be taken as", BY_DAY + """
            as 0 .. = 0 0 0 KIND KIND KIND BAD
            as 3 .. = 3 KIND KIND KIND 3 3 BAD
            as 3 -1 = BAD
            as 3 261 = BAD
            as 3 MIN = BAD
            as 3 MAX = BAD
            """);
        Script.run("trace has no wrong numbers, but those of which there is none", BY_DAY + """
            trace 0 = NONE
            ask 0 0 = -9
            trace .. = 12 11 10 24 21 20 NONE
            trace -1 = NONE
            trace 15 = NONE
            trace 16 = NONE
            trace MIN = NONE
            trace MAX = NONE
            """);
        Script.run("set takes each number", BY_DAY + """
            set 0 0 MIN = 0
            set 0 0 MAX = -1
            row 1 1 1 = 1
            set 1 0 MIN = 0
            set 1 0 MAX = -1
            row 2 2 1 = 1
            set 2 0 MIN = MIN
            set 2 0 MAX = MAX
            """);
        Script.run("places and numbers of ITEMS that wrap around", BY_DAY + """
            copy 0 MAX 1 0 MAX = PLACE
            copy 0 1 1 0 MAX = PLACE
            copy 0 0 1 1 MAX = PLACE
            copy 0 MAX 1 MAX 1 = PLACE
            copy 0 MIN 1 0 MIN = PLACE
            copy 0 0 1 0 MIN = PLACE
            copy 0 MIN 1 MIN MAX = PLACE
            copy 0 20 1 20 0 = 0
            copy 0 21 1 0 0 = PLACE
            copy 0 0 1 21 0 = PLACE
            fits 0 0 MAX 12 0 = PLACE
            fits 0 0 MIN 12 0 = PLACE
            fits 0 0 MAX MAX 0 = BAD
            fits 0 0 9 12 0 = PLACE
            """);
    }
}
