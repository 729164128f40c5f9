/**
 * "What is refused, or found, changes nothing but status()": of two objects with the same calls behind them
 * one alone makes a call that is refused; then both must tell the same, down to what is undone and restored.
 */
public final class RefusedTest {
    private static final String ROWS = """
        row 0 0 2 = 2
        row 1 0 3 = 3
        row 2 2 1 = 1
        row 3 1 0 = 0
        set 0 0 1 = 1
        set 0 1 3 = 3
        set 1 0 2 = 2
        set 1 2 4 = 4
        set 2 0 3 = 3
        """;
    private static final String MAP = """
        text m2;c5;c0;c9;c2;c3;s0,3,1;o2,5,1;r4,2,1;w1,4,0;
        map = 4
        """;
    /** STORE is the finding that stands ahead of the call that is refused. */
    private static final String STORED = "copy 0 0 2 0 0 = STORE\n";
    private static final String ACTS = """
        image 0 = 1
        work 1 6 = 0
        times 2 = 1
        move 0 3 = 2
        ask 0 0 = -9
        text m2;c
        """;
    private static final String NO_MAP = ROWS + "text m2;c\n" + STORED;
    private static final String DAY = ROWS + MAP + ACTS + STORED;
    private static final String NIGHT = ROWS + MAP + ACTS + "times 1 = 0\n" + STORED;
    private static final String FULL_TAPE = ROWS + MAP + "times 1 = 0\ntext " + "m".repeat(130) + "\n" + STORED;

    private static final String OF_ROWS = """
        row -1 0 1 = BAD
        row 8 0 1 = BAD
        row 0 -1 1 = BAD
        row 0 3 1 = BAD
        row 0 0 41 = BAD
        row 5 3 -1 = BAD
        row 0 1 -1 = SIZE
        row 5 0 MIN = SIZE
        set -1 0 9 = BAD
        set 8 0 9 = BAD
        set 5 0 9 = NULL
        set 0 -1 9 = PLACE
        set 0 2 9 = PLACE
        set 3 0 9 = PLACE
        copy -1 0 0 0 1 = BAD
        copy 0 0 8 0 1 = BAD
        copy 5 0 0 0 1 = NULL
        copy 0 0 5 0 1 = NULL
        copy 0 0 2 0 1 = STORE
        copy 0 -1 1 0 1 = PLACE
        copy 0 0 1 -1 1 = PLACE
        copy 0 0 1 0 -1 = PLACE
        copy 0 1 1 0 2 = PLACE
        copy 1 0 0 1 2 = PLACE
        drop -1 = BAD
        drop 8 = BAD
        drop 5 = NULL
        feed -1 = BAD
        feed 256 = BAD
        count -1 = BAD
        count 10 = BAD
        """;
    private static final String WITHOUT_A_MAP = """
        times 1 = STATE
        times 25 = STATE
        move 0 0 = BAD
        swap 0 1 = BAD
        work 0 0 = BAD
        slip 0 = STATE
        slip 16 = STATE
        undo = STATE
        pin 0 0 = BAD
        cell 0 0 = BAD
        ahead 0 0 = BAD
        earned 0 = STATE
        earned 61 = STATE
        tomsk 0 0 = BAD
        round = STATE
        right 0 = STATE
        right 2 = STATE
        best -1 = STATE
        best 7 = STATE
        fits 0 0 0 1 0 = BAD
        fits 0 5 0 1 0 = BAD
        left 0 0 0 = BAD
        drawn 0 1 0 = STATE
        drawn 31 0 2 = STATE
        image 2 = BAD
        image 0 = STATE
        restore 2 = BAD
        restore 0 = STATE
        kind 0 = BAD
        as 0 0 = BAD
        ask 0 0 = BAD
        """;
    private static final String OF_A_MAP = """
        times 0 = BAD
        times 25 = BAD
        move -1 0 = BAD
        move 4 0 = BAD
        move 0 -1 = BAD
        move 0 5 = BAD
        swap -1 0 = BAD
        swap 0 4 = BAD
        swap 1 1 = BAD
        work -1 0 = BAD
        work 5 0 = BAD
        work 0 -1 = BAD
        work 0 10 = BAD
        slip -1 = BAD
        slip 16 = BAD
        pin 4 0 = BAD
        pin 0 5 = BAD
        cell 5 0 = BAD
        cell 0 3 = BAD
        ahead 4 0 = BAD
        ahead 0 61 = BAD
        earned -1 = BAD
        earned 61 = BAD
        tomsk 4 0 = BAD
        tomsk 0 5 = BAD
        right 2 = BAD
        best -2 = BAD
        best 4 = BAD
        fits 4 0 0 1 0 = BAD
        fits 0 8 0 1 0 = BAD
        fits 0 0 0 0 0 = BAD
        fits 0 0 0 13 0 = BAD
        fits 0 0 0 1 4 = BAD
        fits 0 5 0 1 0 = NULL
        fits 0 0 -1 1 0 = PLACE
        fits 0 0 1 2 0 = PLACE
        left 5 0 0 = BAD
        left 0 11 0 = BAD
        left 0 0 2 = BAD
        drawn -1 1 0 = BAD
        drawn 31 1 0 = BAD
        drawn 1 0 0 = BAD
        drawn 1 1000000 0 = BAD
        drawn 1 1 2 = BAD
        image -1 = BAD
        image 2 = BAD
        restore -1 = BAD
        restore 2 = BAD
        restore 1 = STATE
        kind 4 = BAD
        as 4 0 = BAD
        as 0 6 = BAD
        as 0 4 = KIND
        as 3 1 = KIND
        ask 4 0 = BAD
        ask 0 2 = BAD
        """;

    public static void main(String[] args) {
        refused("no map", NO_MAP, OF_ROWS + WITHOUT_A_MAP);
        refused("by day", DAY, OF_ROWS + OF_A_MAP + "move 0 3 = STATE\nmove 3 1 = STATE\n");
        refused("by night", NIGHT, OF_ROWS + OF_A_MAP
            + "move 0 0 = STATE\nmove 3 0 = STATE\nmove 3 1 = STATE\nswap 0 1 = STATE\nswap 3 0 = STATE\n");
        refused("nothing done yet", ROWS + MAP + STORED, "undo = STATE\nrestore 0 = STATE\nrestore 1 = STATE\n");
        refused("a full tape", FULL_TAPE, "feed 0 = FULL\nfeed 59 = FULL\nfeed 256 = BAD\nfeed -1 = BAD\n");
        timeIsFull();
        Script.end();
    }

    private static void refused(String state, String ahead, String calls) {
        String untouched = told(Script.run(state, ahead));
        for (String line : calls.split("\n")) {
            PinBoards boards = Script.run(state, ahead + line);
            Script.due("status, " + state + ", after " + line, boards.status(), findingOf(line));
            Script.due("all else, " + state + ", after " + line, told(boards), untouched);
        }
    }

    private static int findingOf(String line) {
        int answer = Script.number(line.substring(line.indexOf('=') + 1).trim());
        return answer <= -1000011 ? -1000010 - answer : 5;
    }

    /** All that an object answers; it is of no use afterwards. */
    private static String told(PinBoards boards) {
        StringBuilder all = new StringBuilder();
        tellMap(boards, all);
        tellTrace(boards, all);
        tellActs(boards, all);
        tellImages(boards, all);
        tellTape(boards, all);
        tellRows(boards, all);
        return all.toString();
    }

    private static void tell(StringBuilder all, int answer) {
        all.append(answer).append(' ');
    }

    private static void tellMap(PinBoards boards, StringBuilder all) {
        for (int what = 0; what < 10; what++) {
            tell(all, boards.count(what));
        }
        for (int pin = 0; pin < 4; pin++) {
            tell(all, boards.kind(pin));
            for (int what = 0; what < 5; what++) {
                tell(all, boards.pin(pin, what));
            }
        }
        for (int cell = 0; cell < 5; cell++) {
            tell(all, boards.cell(cell, 0));
            tell(all, boards.cell(cell, 1));
        }
        all.append('\n');
    }

    private static void tellTrace(PinBoards boards, StringBuilder all) {
        for (int i = 0; i < 8; i++) {
            tell(all, boards.trace(i));
        }
        tell(all, boards.fault());
        all.append('\n');
    }

    private static void tellActs(PinBoards boards, StringBuilder all) {
        for (int k = 0; k < 6; k++) {
            int left = boards.undo();
            tell(all, left);
            if (left >= 0) {
                tellMap(boards, all);
            }
        }
    }

    private static void tellImages(PinBoards boards, StringBuilder all) {
        for (int k = 0; k < 2; k++) {
            int restored = boards.restore(k);
            tell(all, restored);
            if (restored == 1) {
                tellMap(boards, all);
            }
        }
    }

    /** What is on the tape is told by what is read; then a map is there, so that rows can be told. */
    private static void tellTape(PinBoards boards, StringBuilder all) {
        Script.feed(boards, "1;c2;c3;c4;c5;c6;o0,1,0;");
        tell(all, boards.map());
        tell(all, boards.fault());
        Script.feed(boards, "m2;c1;c2;c3;c4;c5;o0,1,0;");
        tell(all, boards.map());
        all.append('\n');
    }

    /** HOMES of an old one tell the cell that an item is; a set of 70000 tells the lane. */
    private static void tellRows(PinBoards boards, StringBuilder all) {
        for (int row = 0; row < 8; row++) {
            for (int i = 0; i < 4; i++) {
                tell(all, boards.fits(0, row, i, 1, 2));
            }
            tell(all, boards.set(row, 0, 70000));
            tell(all, boards.drop(row));
        }
    }

    private static void timeIsFull() {
        PinBoards boards = Script.run("TIME 9999", MAP);
        for (int k = 0; k < 416; k++) {
            boards.times(24);
        }
        Script.due("times to 9998", boards.times(14), 1);
        int earned = boards.count(6);
        Script.due("beyond 9999", boards.times(2), PinBoards.FULL);
        Script.due("beyond 9999, by far", boards.times(24), PinBoards.FULL);
        Script.due("BAD ahead of FULL", boards.times(25), PinBoards.BAD);
        Script.due("TIME then", boards.count(3), 9998);
        Script.due("EARNED then", boards.count(6), earned);
        Script.due("acts then", boards.count(8), 24);
        Script.due("times to 9999", boards.times(1), 0);
        Script.due("at 9999", boards.times(1), PinBoards.FULL);
        Script.due("TIME then", boards.count(3), 9999);
        Script.due("day then", boards.count(4), 0);
    }
}
