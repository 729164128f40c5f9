/** Promises 9 to 16, 26 and 27: turns, what is changed by hand, what is undone, images. */
public final class ActsTest {
    /** One pin of each kind, two mixed ones of one colour with the old one. */
    private static final String MAP = """
        text m3;c5;c0;c9;c2;c7;c1;s0,3,1;w2,5,1;s4,2,1;o1,9,1;r3,4,2;a5,1,2;
        map = 6
        """;

    public static void main(String[] args) {
        turning();
        mixing();
        earning();
        mostTimeAndEarned();
        moving();
        swapping();
        working();
        slipping();
        undoing();
        forgetting();
        images();
        Script.end();
    }

    private static void turning() {
        Script.run("times, refused", """
            times 1 = STATE
            times 0 = STATE
            """ + MAP + """
            times 0 = BAD
            times 25 = BAD
            times -1 = BAD
            times MIN = BAD
            times MAX = BAD
            count 3 = 0
            count 8 = 0
            """);
        Script.run("closing and opening", MAP + """
            times 1 = 0
            count .. = 0 6 6 1 0 3 0 61 1 0
            pin 0 .. = 0 3 1 NONE 0
            pin 1 .. = 2 5 1 2 2
            pin 4 .. = 3 4 2 NONE 3
            cell 2 .. = 9 2 1
            cell 0 .. = 5 0 0
            # 0 changes with 2 (the whale is none), 2 with the old one, the rover goes 3 on
            times 1 = 1
            count 4 = 1
            count 7 = 0
            pin 0 .. = 0 3 1 4 4
            pin 1 .. = 2 5 1 2 2
            pin 2 .. = 4 2 1 1 1
            pin 3 .. = 1 9 1 1 1
            pin 4 .. = 3 4 2 0 0
            pin 5 .. = 5 1 2 5 5
            cell 1 .. = 0 12 3
            # 3 * 7, 5 * 9, 0, 0, 4 * 5, 1 * 1
            count 6 = 87
            times 24 = 1
            count 3 = 26
            count 8 = 24
            times 3 = 0
            count 3 = 29
            """);
    }

    private static void mixing() {
        // the later one of a pair is put back by its changed LAST, whatever its kind
        Script.run("mixed with a rover", """
            text m1;c0;c0;c0;c0;c0;s0,1,0;r3,1,0;
            map = 2
            times 2 = 1
            pin 0 3 = 3
            pin 1 3 = 1
            times 2 = 1
            pin 0 3 = 1
            pin 1 3 = 4
            """);
        Script.run("a ring of mixed ones with an agent", """
            text m1;c0;c0;c0;c0;s0,1,2;s1,1,2;a2,1,2;
            map = 3
            times 2 = 1
            pin 0 3 = 1
            pin 1 3 = 2
            pin 2 3 = 0
            """);
        Script.run("no pin of a greater number, of the colour, that is no whale", """
            text m1;c0;c0;c0;c0;c0;a0,1,1;s1,1,1;w2,1,1;a3,1,0;
            map = 4
            times 2 = 1
            pin 0 3 = 0
            pin 1 3 = 1
            pin 2 3 = 2
            pin 3 3 = 3
            """);
        Script.run("an old one goes home, and its LAST to the mixed one", """
            text m0;c0;c0;c0;c0;c0;s0,1,1;o1,1,1;
            map = 2
            move 1 4 = 1
            times 2 = 1
            pin 0 3 = 4
            pin 1 3 = 1
            """);
        Script.run("a whale stays where it is", """
            text m0;c0;c0;c0;c0;w0,1,1;
            map = 1
            move 0 3 = 0
            times 1 = 0
            pin 0 3 = 3
            pin 0 4 = 3
            cell 3 1 = 1
            count 7 = 0
            times 1 = 1
            pin 0 3 = 3
            """);
        Script.run("a rover goes round", """
            text m15;c0;c0;c0;c0;r3,1,1;
            map = 1
            times 2 = 1
            pin 0 3 = 2
            slip 6 = 15
            times 2 = 1
            pin 0 3 = 0
            slip 0 = 6
            times 2 = 1
            pin 0 3 = 0
            """);
    }

    private static void earning() {
        // three pins in a cell: 5*7/3 = 11, 4*7/3 = 9, 1*7/3 = 2, each cut by itself
        Script.run("earned by how many are there", """
            text m0;c7;c9;c0;c0;a0,5,0;w1,4,0;a2,1,0;
            map = 3
            move 1 0 = 1
            move 2 0 = 2
            count 6 = 0
            times 1 = 0
            count 6 = 0
            times 1 = 1
            count 6 = 22
            move 1 1 = 0
            times 2 = 1
            # 35/2 = 17, 36, 7/2 = 3
            count 6 = 78
            work 1 0 = 9
            times 2 = 1
            count 6 = 98
            """);
    }

    /** The least of calls: seven pins of 81 each, 24 turns a call. */
    private static void mostTimeAndEarned() {
        StringBuilder text = new StringBuilder("m0;" + "c9;".repeat(7));
        for (int pin = 0; pin < 7; pin++) {
            text.append('a').append(pin).append(",9,0;");
        }
        PinBoards boards = new PinBoards();
        Script.feed(boards, text.toString());
        Script.due("map", boards.map(), 7);
        for (int k = 1; k <= 416; k++) {
            boards.times(24);
            if (k == 146 || k == 147 || k == 148) {
                Script.due("earned, call " + k, boards.count(6), Math.min(999999, 567 * 12 * k));
            }
        }
        Script.due("time", boards.count(3), 9984);
        Script.due("earned(1)", boards.earned(1), 999999);
        Script.due("earned(60)", boards.earned(60), 999999);
        Script.due("drawn", boards.drawn(1, 1, 1) >= 6 ? 1 : 0, 1);
        Script.due("times(16)", boards.times(16), PinBoards.FULL);
        Script.due("times(24)", boards.times(24), PinBoards.FULL);
        Script.due("times(25)", boards.times(25), PinBoards.BAD);
        Script.due("time", boards.count(3), 9984);
        Script.due("times(15)", boards.times(15), 0);
        Script.due("time", boards.count(3), 9999);
        Script.due("times(1)", boards.times(1), PinBoards.FULL);
        Script.due("ahead(0, 1)", boards.ahead(0, 1), 0);
        Script.due("undo", boards.undo(), 23);
        Script.due("times(1)", boards.times(1), 0);
    }

    private static void moving() {
        Script.run("move", MAP + """
            move -1 0 = BAD
            move 6 0 = BAD
            move 0 -1 = BAD
            move 0 6 = BAD
            move 0 0 = STATE
            count 8 = 0
            move 0 2 = 0
            pin 0 .. = 0 3 1 2 2
            cell 2 1 = 3
            cell 0 1 = 0
            move 1 5 = 2
            pin 1 3 = 5
            move 0 2 = STATE
            count 8 = 2
            times 1 = 0
            move 0 1 = STATE
            move 1 1 = STATE
            move 6 1 = BAD
            move 0 6 = BAD
            count 8 = 3
            """);
    }

    private static void swapping() {
        Script.run("swap", MAP + """
            swap -1 0 = BAD
            swap 0 6 = BAD
            swap 6 0 = BAD
            swap 0 -1 = BAD
            swap 2 2 = BAD
            count 8 = 0
            swap 0 1 = 2
            pin 0 .. = 0 3 1 2 2
            pin 1 .. = 2 5 1 0 0
            swap 4 0 = 2
            pin 0 3 = 3
            move 0 2 = 3
            swap 0 4 = 2
            pin 0 3 = 2
            count 8 = 4
            times 1 = 0
            swap 0 1 = STATE
            swap 0 0 = BAD
            count 8 = 5
            """);
    }

    private static void working() {
        Script.run("work", """
            work 0 0 = BAD
            """ + MAP + """
            work -1 0 = BAD
            work 6 0 = BAD
            work 0 -1 = BAD
            work 0 10 = BAD
            count 8 = 0
            work 0 9 = 5
            work 0 9 = 9
            cell 0 0 = 9
            count 8 = 2
            work 5 0 = 1
            cell 5 0 = 0
            times 1 = 0
            work 1 4 = 0
            cell 1 0 = 4
            count 8 = 5
            """);
    }

    private static void slipping() {
        Script.run("slip", """
            slip 3 = STATE
            slip 16 = STATE
            """ + MAP + """
            slip -1 = BAD
            slip 16 = BAD
            count 8 = 0
            slip 15 = 3
            count 5 = 15
            slip 15 = 15
            count 8 = 2
            times 1 = 0
            slip 0 = 15
            count 5 = 0
            count 8 = 4
            """);
    }

    private static void undoing() {
        Script.run("undo", """
            undo = STATE
            """ + MAP + """
            undo = STATE
            move 0 2 = 0
            swap 0 4 = 3
            work 0 9 = 5
            slip 2 = 3
            times 3 = 0
            count 8 = 7
            undo = 6
            count 3 = 2
            count 4 = 1
            undo = 5
            count .. = 0 6 6 1 0 2 0 61 5 0
            pin 0 .. = 0 3 1 NONE 3
            undo = 4
            count .. = 0 6 6 0 1 2 0 0 4 0
            pin 0 .. = 0 3 1 3 3
            undo = 3
            count 5 = 3
            undo = 2
            cell 0 0 = 5
            undo = 1
            pin 0 3 = 2
            pin 4 3 = 3
            undo = 0
            pin 0 3 = 0
            undo = STATE
            # nothing becomes another by these, and yet they are undone
            slip 3 = 3
            work 0 5 = 5
            undo = 1
            undo = 0
            undo = STATE
            times 2 = 1
            count 6 = 87
            work 3 1 = 2
            undo = 2
            undo = 1
            count 6 = 0
            count 3 = 1
            """);
    }

    private static void forgetting() {
        PinBoards boards = Script.run("24 acts at most", MAP);
        for (int v = 0; v < 40; v++) {
            boards.slip(v % 16);
            Script.due("acts", boards.count(8), Math.min(24, v + 1));
        }
        for (int v = 38; v >= 15; v--) {
            Script.due("undo", boards.undo(), v - 15);
            Script.due("slip", boards.count(5), v % 16);
        }
        Script.due("undo", boards.undo(), PinBoards.STATE);
        Script.due("slip", boards.count(5), 15);
        Script.due("work", boards.work(0, 1), 5);
        Script.due("undo", boards.undo(), 0);
        Script.due("work of 0", boards.cell(0, 0), 5);
    }

    private static void images() {
        Script.run("image and restore, refused", """
            image .. = STATE STATE BAD
            restore .. = STATE STATE BAD
            image -1 = BAD
            restore -1 = BAD
            """ + MAP + """
            restore .. = STATE STATE BAD
            image 1 = 1
            restore 0 = STATE
            image 2 = BAD
            restore 2 = BAD
            restore -1 = BAD
            restore 1 = 1
            """);
        Script.run("image and restore", MAP + """
            times 2 = 1
            work 0 9 = 5
            image 0 = 1
            count 8 = 3
            times 3 = 0
            slip 7 = 3
            image 1 = 1
            undo = 6
            restore 0 = 1
            count .. = 0 6 6 2 1 3 87 0 0 0
            undo = STATE
            pin 0 .. = 0 3 1 4 4
            cell 0 0 = 9
            restore 1 = 1
            count 3 = 5
            count 5 = 7
            count 4 = 0
            count 7 = 61
            # changes after it leave the image as it was
            work 0 0 = 9
            times 1 = 1
            restore 1 = 1
            cell 0 0 = 9
            count 3 = 5
            image 1 = 1
            text m1;c1;c1;c1;c1;
            map = 0
            image 0 = 1
            restore 1 = 1
            count 2 = 6
            restore 0 = 1
            count 2 = 0
            count 1 = 4
            """);
    }
}
