/** Promises 17 to 25: what is foretold, by which nothing changes. */
public final class ForetoldTest {
    private static final String MAP = """
        text m3;c5;c0;c9;c2;c7;c1;s0,3,1;w2,5,1;s4,2,1;o1,9,1;r3,4,2;a5,1,2;
        map = 6
        """;

    public static void main(String[] args) {
        goingOn();
        tomsk();
        tomskAtMost();
        round();
        right();
        best();
        fitsRefused();
        fitsByDay();
        fitsByNight();
        leftOut();
        years();
        nothingChanges();
        Script.end();
    }

    private static void goingOn() {
        Script.run("ahead and earned", MAP + """
            ahead 6 0 = BAD
            ahead -1 0 = BAD
            ahead 0 -1 = BAD
            ahead 0 61 = BAD
            earned -1 = BAD
            earned 61 = BAD
            ahead 0 .. = 0 NONE 4 NONE 1
            ahead 1 .. = 2 2 2 2 2
            ahead 2 .. = 4 NONE 1 NONE 1
            ahead 3 .. = 1 NONE 1 NONE 1
            ahead 4 .. = 3 NONE 0 NONE 3
            ahead 5 60 = 5
            ahead 5 59 = NONE
            ahead 4 60 = 3
            ahead 4 58 = 0
            earned .. = 0 0 87 87
            times 1 = 0
            ahead 0 .. = NONE 4 NONE 1
            ahead 1 .. = 2 2 2 2 2
            earned .. = 0 87 87
            times 1 = 1
            earned 0 = 87
            """);
    }

    private static void tomsk() {
        Script.run("tomsk", MAP + """
            tomsk -1 0 = BAD
            tomsk 6 0 = BAD
            tomsk 0 -1 = BAD
            tomsk 0 6 = BAD
            tomsk 0 .. = 0 4 NONE NONE 2 NONE BAD
            tomsk 4 .. = 2 NONE NONE 0 NONE NONE BAD
            times 1 = 0
            tomsk 0 .. = NONE 3 NONE NONE 1 NONE
            tomsk 1 2 = 0
            tomsk 4 0 = 1
            tomsk 4 3 = 3
            """);
        // one cell a day: the last of 16 is reached behind 30 turns
        Script.run("tomsk, far", """
            text m1;c0;c0;c0;c0;c0;c0;c0;c0;c0;c0;c0;c0;c0;c0;c0;c0;r0,1,0;
            map = 1
            tomsk 0 .. = 0 2 4 6 8 10 12 14 16 18 20 22 24 26 28 30 BAD
            times 1 = 0
            tomsk 0 .. = 31 1 3 5 7 9 11 13 15 17 19 21 23 25 27 29
            """);
    }

    /** Three openings bring all three pins one cell on; opening 30 is behind 60 turns by day. */
    private static void tomskAtMost() {
        Script.run("tomsk, at most", """
            text m1;c0;c0;c0;c0;c0;c0;c0;c0;c0;c0;c0;c0;c0;c0;c0;c0;s0,1,0;s1,1,0;r2,1,0;
            map = 3
            move 1 0 = 1
            move 2 0 = 2
            tomsk 0 9 = 54
            tomsk 0 10 = 60
            tomsk 0 11 = NONE
            tomsk 1 10 = 58
            tomsk 1 11 = NONE
            tomsk 2 10 = 56
            tomsk 2 11 = NONE
            times 1 = 0
            tomsk 0 10 = 59
            tomsk 2 11 = NONE
            times 1 = 1
            tomsk 2 11 = 60
            tomsk 0 10 = 58
            """);
    }

    private static void round() {
        Script.run("round by day, and by night", """
            text m1;c0;c0;c0;c0;c0;c0;r0,1,0;w1,1,0;
            map = 2
            round = 12
            slip 2 = 1
            round = 6
            slip 6 = 2
            round = 2
            times 1 = 0
            round = 2
            """);
        Script.run("round of whales alone", """
            text m1;c0;c0;c0;c0;w0,1,0;w1,1,0;
            map = 2
            round = 1
            times 1 = 0
            round = 1
            """);
        Script.run("round, never", """
            text m1;c0;c0;c0;c0;o0,1,0;
            map = 1
            round = 2
            move 0 1 = 0
            round = NONE
            times 1 = 0
            round = 2
            """);
        // two openings bring both one cell on: 13 cells, 26 openings
        Script.run("round of a mixed one and a rover", """
            text m1;c0;c0;c0;c0;c0;c0;c0;c0;c0;c0;c0;c0;c0;s0,1,0;r1,1,0;
            map = 2
            round = 52
            """);
        Script.run("round of three, of 16 cells", """
            text m1;c0;c0;c0;c0;c0;c0;c0;c0;c0;c0;c0;c0;c0;c0;c0;c0;s0,1,0;s1,1,0;r2,1,0;
            map = 3
            round = 96
            """);
        // six openings bring all one cell on: 17 cells would be too many, 16 take 96 openings
        Script.run("round of six, near the most", """
            text m1;c0;c0;c0;c0;c0;c0;c0;c0;c0;c0;c0;c0;c0;c0;c0;c0;
            text s0,1,0;s1,1,0;s2,1,0;s3,1,0;s4,1,0;r5,1,0;
            map = 6
            round = 192
            """);
        // rings of 5 * 10 and 2 * 10 openings
        Script.run("round of seven, at most", """
            text m1;c0;c0;c0;c0;c0;c0;c0;c0;c0;c0;
            text s0,1,0;s1,1,0;s2,1,0;s3,1,0;r4,1,0;s5,1,1;r6,1,1;
            map = 7
            round = 200
            """);
        Script.run("round of seven, a little beyond the most", """
            text m1;c0;c0;c0;c0;c0;c0;c0;c0;c0;c0;c0;c0;c0;c0;c0;
            text s0,1,0;s1,1,0;s2,1,0;s3,1,0;s4,1,0;s5,1,0;r6,1,0;
            map = 7
            round = NONE
            """);
        Script.run("round of seven, beyond the most", """
            text m1;c0;c0;c0;c0;c0;c0;c0;c0;c0;c0;c0;c0;c0;c0;c0;c0;
            text s0,1,0;s1,1,0;s2,1,0;s3,1,0;s4,1,0;s5,1,0;r6,1,0;
            map = 7
            round = NONE
            """);
    }

    private static void right() {
        Script.run("right", MAP + """
            right -1 = BAD
            right 2 = BAD
            right .. = 63 0 BAD
            swap 0 3 = 1
            right .. = 54 1
            swap 0 5 = 5
            right .. = 22 2
            swap 1 2 = 4
            right .. = 16 3
            move 4 1 = 3
            right .. = 0 NONE
            times 1 = 0
            right .. = 0 NONE BAD
            """);
        Script.run("right, in cells that are homes and in others", """
            text m0;c1;c1;c1;c1;c1;w0,1,1;a1,1,1;o2,1,1;
            map = 3
            move 2 3 = 2
            right .. = 3 NONE
            move 0 2 = 0
            right .. = 2 NONE
            move 2 0 = 3
            right .. = 2 1
            move 1 2 = 1
            right .. = 0 NONE
            move 1 1 = 2
            times 1 = 0
            right .. = 0 NONE
            times 1 = 1
            right .. = 6 NONE
            """);
        Script.run("rings of changes", """
            text m0;c1;c1;c1;c1;c1;c1;c1;a0,1,0;a1,1,0;a2,1,0;a3,1,0;a4,1,0;a5,1,0;a6,1,0;
            map = 7
            swap 0 1 = 1
            swap 2 3 = 3
            swap 4 5 = 5
            right .. = 64 3
            swap 5 6 = 6
            right .. = 0 4
            swap 1 2 = 3
            right .. = 0 5
            swap 0 6 = 4
            right .. = 0 6
            """);
        Script.run("whales alone by night", """
            text m0;c1;c1;c1;c1;w0,1,1;w1,1,1;
            map = 2
            times 1 = 0
            right .. = 3 NONE
            """);
    }

    private static void best() {
        Script.run("best", MAP + """
            best -2 = BAD
            best 6 = BAD
            # 9*9 + 5*7 + 4*5 + 3*2 + 2*1 + 1*0
            best -1 = 144
            best .. = 3 4 5 2 0 1 BAD
            times 1 = 0
            best -1 = 144
            best .. = 3 4 5 2 0 1 BAD
            """);
        Script.run("the first of ways that are alike", """
            text m0;c2;c3;c3;c3;c2;a4,5,0;a3,5,0;a2,9,0;
            map = 3
            best -1 = 57
            best .. = 1 2 3
            work 1 2 = 3
            # 27 + 15 + 10: the first one of skill 5 takes the least cell
            best -1 = 52
            best .. = 0 2 3
            work 0 0 = 2
            work 1 0 = 2
            work 2 0 = 3
            work 3 0 = 3
            work 4 0 = 2
            best -1 = 0
            best .. = 0 1 2
            """);
        Script.run("more pins than cells", """
            text m0;c1;c1;c1;c1;a0,1,0;a1,1,0;a2,1,0;a3,1,0;
            map = 4
            best -1 = 4
            best .. = 0 1 2 3 BAD
            """);
    }

    private static void fitsRefused() {
        Script.run("fits, refused and found", """
            row 0 0 3 = 3
            fits 0 0 0 1 0 = BAD
            """ + MAP + """
            fits -1 0 0 1 0 = BAD
            fits 6 0 0 1 0 = BAD
            fits 0 -1 0 1 0 = BAD
            fits 0 8 0 1 0 = BAD
            fits 0 0 0 0 0 = BAD
            fits 0 0 0 13 0 = BAD
            fits 0 0 0 -1 0 = BAD
            fits 0 0 0 1 -1 = BAD
            fits 0 0 0 1 4 = BAD
            fits 0 1 0 13 0 = BAD
            fits 0 1 9 1 0 = NULL
            fits 0 0 -1 1 0 = PLACE
            fits 0 0 3 1 0 = PLACE
            fits 0 0 2 2 0 = PLACE
            fits 0 0 0 4 0 = PLACE
            fits 0 0 0 12 0 = PLACE
            fits 0 0 MAX 12 0 = PLACE
            fits 0 0 MIN 1 0 = PLACE
            # in 0: an agent, an old one, a whale
            fits 0 0 2 1 0 = 50
            """);
    }

    private static void fitsByDay() {
        Script.run("fits of an agent by day", """
            text m2;c0;c0;c0;c0;c0;c0;a0,1,0;a3,1,1;
            map = 2
            row 0 2 12 = 12
            # as it is: an agent, an old one or a whale; one he mixes finds none of its colour
            fits 0 0 0 12 .. = 54 65535 63 1 BAD
            set 0 0 2 = 2
            set 0 1 4 = 4
            # 2, 4, 0: a rover
            fits 0 0 0 3 .. = 8 0 0 0
            set 0 1 2 = 2
            fits 0 0 0 2 .. = 0 0 0 4
            # no cells at all
            set 0 0 6 = 6
            fits 0 0 0 1 .. = 0 0 0 0
            set 0 0 -1 = -1
            fits 0 0 0 1 .. = 0 0 0 0
            set 0 0 NONE = NONE
            fits 0 0 0 1 .. = 0 0 0 0
            # home or not, a whale and an agent do not care
            move 0 5 = 0
            set 0 0 5 = 5
            fits 0 0 0 1 .. = 38 65535 63 32
            set 0 0 0 = 0
            fits 0 0 0 1 .. = 16 0 0 1
            """);
        Script.run("fits of a rover by day", """
            text m2;c0;c0;c0;c0;c0;c0;r0,1,0;
            map = 1
            row 0 0 3 = 3
            set 0 0 2 = 2
            set 0 1 4 = 4
            # SLIP is 2, 8 or 14, alike in a ring of six
            fits 0 0 0 3 .. = 8 16644 63 1
            set 0 2 1 = 1
            fits 0 0 0 3 .. = 0 0 0 0
            fits 0 0 1 1 .. = 0 1040 0 4
            """);
        Script.run("fits of an old one by day", """
            text m0;c0;c0;c0;c0;o0,1,0;o1,1,0;
            map = 2
            row 0 1 2 = 2
            # its home may be another's
            set 0 0 1 = 1
            set 0 1 1 = 1
            fits 0 0 0 2 .. = 4 0 2 0
            move 1 0 = 1
            fits 1 0 0 2 .. = 16 65535 2 15
            set 0 0 0 = 0
            fits 1 0 0 1 .. = 46 0 1 0
            """);
        Script.run("fits of one he mixes by day", """
            text m1;c0;c0;c0;c0;c0;s0,1,0;r3,1,0;a4,1,0;
            map = 3
            row 0 0 2 = 2
            set 0 0 3 = 3
            set 0 1 1 = 1
            # it comes where the rover was: that one's LAST is the cell it was in, and 1 on
            fits 0 0 0 2 .. = 4 2114 31 1
            # the rover gets LAST of the first, 0; taken as a whale, it stays, as an old one, it is at home
            fits 1 0 0 1 .. = 48 8456 0 0
            set 0 0 0 = 0
            fits 1 0 0 1 .. = 2 33825 0 0
            # where it is now, the first one is then
            fits 0 0 0 1 .. = 50 0 0 0
            """);
    }

    private static void fitsByNight() {
        Script.run("fits of an agent by night", """
            text m2;c0;c0;c0;c0;c0;c0;a1,1,0;
            map = 1
            move 0 3 = 1
            times 1 = 0
            row 0 0 2 = 2
            set 0 0 3 = 3
            set 0 1 3 = 3
            fits 0 0 0 2 .. = 38 65535 63 8
            set 0 0 5 = 5
            fits 0 0 0 1 .. = 8 0 0 32
            set 0 0 1 = 1
            fits 0 0 0 1 .. = 16 0 0 2
            count 4 = 0
            pin 0 4 = 3
            """);
        Script.run("fits of a whale by night", """
            text m2;c0;c0;c0;c0;c0;c0;w1,1,0;
            map = 1
            move 0 3 = 1
            times 1 = 0
            row 0 0 2 = 2
            set 0 0 5 = 5
            set 0 1 1 = 1
            # taken as a rover, it is in the tray, and put back two on; then round
            fits 0 0 0 1 .. = 8 0 0 32
            fits 0 0 0 2 .. = 8 0 0 0
            fits 0 0 1 1 .. = 16 0 0 2
            set 0 0 3 = 3
            fits 0 0 0 1 .. = 38 65535 63 8
            """);
    }

    private static void leftOut() {
        Script.run("left, refused", MAP + """
            left -1 0 0 = BAD
            left 6 0 0 = BAD
            left 0 -1 0 = BAD
            left 0 11 0 = BAD
            left 0 0 -1 = BAD
            left 0 0 2 = BAD
            """);
        Script.run("left out, each by itself", """
            text m1;c0;c0;c0;c0;c0;c0;a0,1,0;a1,1,0;w3,1,0;o4,1,0;
            map = 4
            move 1 0 = 1
            move 3 5 = 4
            left 0 5 .. = 3 4 BAD
            left 0 2 .. = 24 25
            left 0 0 .. = 1 1
            left 0 10 .. = 0 1
            left 1 5 .. = 0 1
            left 3 10 .. = 1 1
            left 3 3 .. = 1 1
            left 4 5 .. = 1 2
            left 4 6 .. = 2 5
            left 5 5 .. = 0 1
            times 1 = 0
            left 0 2 .. = 24 25
            left 3 10 .. = 1 1
            left 4 5 .. = 1 2
            left 5 5 .. = 0 1
            """);
        // who mixes changes LAST in his turn alone; then the other one may stay in the tray
        Script.run("one he mixes, left out", """
            text m1;c0;c0;c0;c0;c0;s0,1,0;r2,1,0;
            map = 2
            left 0 3 .. = 0 1
            left 1 3 .. = 49 100
            left 2 3 .. = 7 10
            left 3 3 .. = 21 100
            left 4 3 .. = 0 1
            """);
        Script.run("seven in one cell", """
            text m0;c0;c0;c0;c0;c0;c0;c0;a0,1,0;a1,1,0;a2,1,0;a3,1,0;a4,1,0;a5,1,0;a6,1,0;
            map = 7
            move 1 0 = 1
            move 2 0 = 2
            move 3 0 = 3
            move 4 0 = 4
            move 5 0 = 5
            move 6 0 = 6
            left 0 9 .. = 5217031 10000000
            left 0 5 .. = 127 128
            left 0 1 .. = 9999999 10000000
            """);
    }

    private static void years() {
        Script.run("drawn, refused", MAP + """
            drawn -1 1 0 = BAD
            drawn 31 1 0 = BAD
            drawn 1 0 0 = BAD
            drawn 1 1000000 0 = BAD
            drawn 1 -1 0 = BAD
            drawn 1 1 -1 = BAD
            drawn 1 1 2 = BAD
            drawn 30 999999 2 = BAD
            """);
        // X is 16807 (SLIP 7, pin 1, cell 2), then 282475249 (SLIP 1, pin 1, cell 4)
        Script.run("drawn, two years by hand", """
            text m0;c9;c8;c7;c6;c5;r0,1,0;a1,9,0;
            map = 2
            drawn 0 1 .. = 0 2
            drawn 1 1 .. = 34 0
            drawn 2 1 .. = 85 0
            """);
        Script.run("drawn by night", """
            text m0;c9;c8;c7;c6;c5;r0,1,0;a1,9,0;w3,1,0;
            map = 3
            times 1 = 0
            drawn 0 1 .. = 0 1
            # no pin is moved ahead of the first: 7 on is 2
            drawn 1 1 .. = 85 2
            """);
        Script.run("drawn leaves what was earned out", """
            text m0;c9;c8;c7;c6;a0,1,0;
            map = 1
            times 2 = 1
            count 6 = 9
            drawn 0 5 .. = 0 1
            times 1 = 0
            drawn 1 5 .. = 9 1
            """);
    }

    private static void nothingChanges() {
        String state = """
            count .. = 1 6 6 2 1 3 87 0 2 0
            pin 0 .. = 0 3 1 4 4
            pin 1 .. = 2 5 1 2 2
            pin 2 .. = 4 2 1 1 1
            pin 3 .. = 1 9 1 1 1
            pin 4 .. = 3 4 2 0 0
            pin 5 .. = 5 1 2 5 5
            cell 0 .. = 5 16 0
            """;
        String calls = """
            ahead 0 3 = NONE
            earned 1 = 87
            tomsk 0 5 = NONE
            round = NONE
            right .. = 42 NONE BAD
            best -1 = 144
            best 5 = 1
            # home is 0: an old one would be there
            fits 0 0 0 1 .. = 16 0 0 0
            left 2 5 .. = 1 1
            """;
        Script.run("what is foretold changes nothing", MAP + "row 0 0 2 = 2\ntimes 2 = 1\n" + state
            + calls.replace("\n", "\n" + state));
        PinBoards boards = Script.run("a drawn year", MAP + "row 0 0 2 = 2\ntimes 2 = 1\n");
        boards.drawn(30, 77, 0);
        Script.due("time after a drawn year", boards.count(3), 2);
        Script.due("slip after a drawn year", boards.count(5), 3);
        Script.due("earned after a drawn year", boards.count(6), 87);
        Script.due("acts after a drawn year", boards.count(8), 2);
        Script.due("pin 0 after a drawn year", boards.pin(0, 3), 4);
    }
}
