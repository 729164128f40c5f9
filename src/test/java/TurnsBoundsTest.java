/** Turns, acts, what is foretold, and asks: each sentence of the Terms that names a bound, by its words. */
public final class TurnsBoundsTest {
    private static final String FOUR = "text m1;c1;c2;c3;c4;";

    public static void main(String[] args) {
        turns();
        mixing();
        working();
        earnedAtMost();
        actsAtMost();
        actsOfEachKind();
        turnsForetold();
        rightAndBest();
        fits();
        leftOut();
        years();
        asks();
        Script.end();
    }

    private static void turns() {
        Script.run("by night in THE TRAY (nowhere), but a whale stays where it is", """
            text m1;c1;c2;c3;c4;c5;a0,1,0;s1,1,0;r2,1,0;o3,1,0;w4,1,0;
            map = 5
            count 7 = 0
            times 1 = 0
            count 7 = 15
            pin 0 3 = NONE
            pin 1 3 = NONE
            pin 2 3 = NONE
            pin 3 3 = NONE
            pin 4 3 = 4
            cell 0 .. = 1 0 0
            cell 4 .. = 5 16 4
            """);
        Script.run("LAST is the CELL it was in, by day the CELL it is in", FOUR + """
            a0,1,0;
            map = 1
            move 0 3 = 0
            pin 0 4 = 3
            times 1 = 0
            pin 0 4 = 3
            times 1 = 1
            pin 0 .. = 0 1 0 3 3
            """);
        Script.run("SLIP on from LAST (round)", """
            text m15;c1;c1;c1;c1;c1;c1;c1;c1;c1;c1;c1;c1;c1;c1;c1;c1;r15,1,0;r0,1,0;
            map = 2
            ahead 0 2 = 14
            ahead 1 2 = 15
            slip 1 = 15
            ahead 0 2 = 0
            ahead 1 2 = 1
            slip 0 = 1
            ahead 0 2 = 15
            ahead 1 60 = 0
            """);
        Script.run("SLIP may be more than CELLS", """
            text m4;c1;c1;c1;c1;r3,1,0;
            map = 1
            ahead 0 2 = 3
            slip 15 = 4
            ahead 0 2 = 2
            slip 3 = 15
            ahead 0 2 = 2
            """);
        Script.run("an old one into its HOME, also when another is there", FOUR + """
            o0,1,0;a1,1,0;
            map = 2
            move 0 3 = 0
            move 1 0 = 1
            times 2 = 1
            cell 0 1 = 3
            cell 3 1 = 0
            """);
        Script.run("TIME is 1 more by each TURN", FOUR + """

            map = 0
            times 1 = 0
            count 3 = 1
            times 24 = 0
            count 3 = 25
            times 23 = 1
            count 3 = 48
            """);
    }

    private static void mixing() {
        String six = "text m1;c0;c0;c0;c0;c0;c0;";
        Script.run("a PIN of a greater number: one of a lesser is none", six + "a0,1,1;s1,1,1;\n" + """
            map = 2
            ahead 0 2 = 0
            ahead 1 2 = 1
            """);
        Script.run("a PIN of a greater number: none at all", six + "s3,1,1;\n" + """
            map = 1
            ahead 0 2 = 3
            """);
        Script.run("of its COLOUR", six + "s0,1,1;a1,1,2;a2,1,0;a3,1,1;\n" + """
            map = 4
            ahead 0 2 = 3
            ahead 1 2 = 1
            ahead 2 2 = 2
            ahead 3 2 = 0
            """);
        Script.run("that is no whale, another one behind it", six + "s0,1,1;w1,1,1;a2,1,1;\n" + """
            map = 3
            ahead 0 2 = 2
            ahead 1 2 = 1
            ahead 2 2 = 0
            """);
        Script.run("that is no whale, none behind it", six + "s0,1,1;w1,1,1;\n" + """
            map = 2
            ahead 0 2 = 0
            ahead 1 2 = 1
            """);
        Script.run("the one of the least such number", six + "s0,1,1;a1,1,1;a2,1,1;\n" + """
            map = 3
            ahead 0 2 = 1
            ahead 1 2 = 0
            ahead 2 2 = 2
            """);
        Script.run("put back later by its changed LAST: a mixed one, an agent", six + "s0,1,1;s1,1,1;a2,1,1;\n" + """
            map = 3
            ahead 0 2 = 1
            ahead 1 2 = 2
            ahead 2 2 = 0
            """);
        Script.run("put back later by its changed LAST: a rover, an old one", six + "s0,1,1;r5,1,1;s2,1,2;o3,1,2;\n" + """
            map = 4
            ahead 0 2 = 5
            ahead 1 2 = 1
            ahead 2 2 = 3
            ahead 3 2 = 3
            """);
    }

    private static void working() {
        Script.run("SKILL times WORK, by how many PINS are in that CELL (cut)", """
            text m0;c7;c9;c0;c0;a0,5,0;w1,4,0;a2,1,0;
            map = 3
            # 35 and 36 and 0
            earned 2 = 71
            move 1 0 = 1
            # 35 by 2, 28 by 2
            earned 2 = 31
            move 2 0 = 2
            # 35, 28, 7 by 3
            earned 2 = 22
            """);
        Script.run("seven PINS in one CELL", """
            text m0;c6;c0;c0;c0;c0;c0;c0;a0,1,0;a1,1,0;a2,1,0;a3,1,0;a4,1,0;a5,1,0;a6,9,0;
            map = 7
            move 1 0 = 1
            move 2 0 = 2
            move 3 0 = 3
            move 4 0 = 4
            move 5 0 = 5
            move 6 0 = 6
            # 6 by 7 is 0, 54 by 7 is 7
            earned 2 = 7
            """);
        Script.run("they WORK as it opens, not as it closes", FOUR + """
            a3,9,0;
            map = 1
            times 1 = 0
            count 6 = 0
            times 1 = 1
            count 6 = 36
            times 1 = 0
            count 6 = 36
            """);
    }

    /** 567 an opening, 6804 by 24 turns: 146 times 6804 and 11 times 567 are 378 less than 999999. */
    private static void earnedAtMost() {
        PinBoards boards = Script.run("all together (999999 at most)",
            "text m0;c9;c9;c9;c9;c9;c9;c9;a0,9,0;a1,9,0;a2,9,0;a3,9,0;a4,9,0;a5,9,0;a6,9,0;\nmap = 7\n");
        for (int k = 0; k < 146; k++) {
            boards.times(24);
        }
        boards.times(22);
        Script.due("earned by then", boards.count(6), 999621);
        Script.due("foretold, no turn on", boards.earned(0), 999621);
        Script.due("foretold, closed", boards.earned(1), 999621);
        Script.due("foretold, opened", boards.earned(2), 999999);
        Script.due("foretold, the most", boards.earned(60), 999999);
        boards.work(4, 5);
        boards.work(5, 0);
        boards.work(6, 0);
        Script.due("4 times 81 and 45", boards.earned(2), 999990);
        boards.work(4, 6);
        Script.due("4 times 81 and 54", boards.earned(2), 999999);
        Script.due("a turn", boards.times(2), 1);
        Script.due("earned, at most", boards.count(6), 999999);
        Script.due("another turn", boards.times(2), 1);
        Script.due("earned, not more", boards.count(6), 999999);
        Script.due("undone", boards.undo() + boards.undo() + boards.undo(), 23 + 22 + 21);
        Script.due("undone again", boards.undo(), 20);
        Script.due("earned, undone", boards.count(6), 999621);
        Script.due("an image", boards.image(0), 1);
        Script.due("turns", boards.times(24), 1);
        Script.due("restored", boards.restore(0), 1);
        Script.due("earned, restored", boards.count(6), 999621);
    }

    private static void actsAtMost() {
        StringBuilder lines = new StringBuilder(FOUR + "\nmap = 0\n");
        for (int v = 0; v < 24; v++) {
            lines.append("slip ").append(v % 16).append(" = ").append(v == 0 ? 1 : (v - 1) % 16).append('\n');
            lines.append("count 8 = ").append(v + 1).append('\n');
        }
        StringBuilder back = new StringBuilder();
        for (int v = 23; v > 0; v--) {
            back.append("undo = ").append(v).append('\n');
        }
        Script.run("24 at most are kept: 24", lines + back.toString()
            + "count 5 = 0\nundo = 0\ncount 5 = 1\nundo = STATE\n");
        Script.run("of more the oldest is forgotten: 25", lines + "slip 9 = 7\ncount 8 = 24\n" + back
            + "count 5 = 1\nundo = 0\ncount 5 = 0\nundo = STATE\n");
        Script.run("one undone, another done: nothing is forgotten", lines + "undo = 23\ncount 5 = 6\n"
            + "slip 9 = 6\ncount 8 = 24\n" + back + "undo = 0\ncount 5 = 1\nundo = STATE\n");
        Script.run("24 TURNS are 24 ACTS: all ahead of them is forgotten", FOUR + "\nmap = 0\nslip 5 = 1\ntimes 24 = 1\n"
            + "count 8 = 24\n" + back + "count 3 = 1\nundo = 0\ncount 3 = 0\nundo = STATE\ncount 5 = 5\n");
        Script.run("23 TURNS: one ACT ahead of them is kept", FOUR + "\nmap = 0\nslip 5 = 1\nslip 6 = 5\ntimes 23 = 0\n"
            + back + "count 3 = 0\ncount 5 = 6\nundo = 0\ncount 5 = 5\nundo = STATE\n");
    }

    private static void actsOfEachKind() {
        Script.run("each can be undone, the latest first", FOUR + """
            a0,1,0;r1,1,0;
            map = 2
            move 0 2 = 0
            swap 0 1 = 1
            work 3 9 = 4
            slip 2 = 1
            times 1 = 0
            count 8 = 5
            undo = 4
            count .. = 0 4 2 0 1 2 0 0 4 0
            undo = 3
            count 5 = 1
            undo = 2
            cell 3 0 = 4
            undo = 1
            pin 0 3 = 2
            pin 1 3 = 1
            undo = 0
            pin 0 3 = 0
            undo = STATE
            """);
        Script.run("also such by which nothing becomes another", FOUR + """
            a0,1,0;w1,1,0;
            map = 2
            work 0 1 = 1
            slip 1 = 1
            move 1 0 = 1
            swap 0 1 = 0
            count 8 = 4
            undo = 3
            undo = 2
            undo = 1
            undo = 0
            undo = STATE
            """);
        Script.run("a PIN is moved (by day), two PINS change CELLS (by day)", FOUR + """
            a0,1,0;w1,1,0;
            map = 2
            times 1 = 0
            move 0 1 = STATE
            move 1 0 = STATE
            swap 0 1 = STATE
            work 0 2 = 1
            slip 3 = 1
            count 8 = 3
            times 1 = 1
            move 0 1 = 0
            swap 0 1 = 1
            count 8 = 6
            """);
    }

    private static void turnsForetold() {
        Script.run("d TURNS on (0 to 60)", FOUR + """
            a3,2,0;
            map = 1
            ahead 0 -1 = BAD
            ahead 0 0 = 3
            ahead 0 1 = NONE
            ahead 0 59 = NONE
            ahead 0 60 = 3
            ahead 0 61 = BAD
            earned -1 = BAD
            earned 0 = 0
            earned 59 = 232
            earned 60 = 240
            earned 61 = BAD
            times 1 = 0
            ahead 0 0 = NONE
            ahead 0 59 = 3
            ahead 0 60 = NONE
            earned 59 = 240
            earned 60 = 240
            """);
        Script.run("TOMSK: behind how many TURNS (0 to 60); NONE", """
            text m1;c0;c0;c0;c0;c0;c0;c0;c0;c0;c0;c0;c0;c0;c0;c0;c0;s0,1,0;s1,1,0;r2,1,0;a15,1,1;
            map = 4
            tomsk 3 15 = 0
            tomsk 3 14 = NONE
            move 1 0 = 1
            move 2 0 = 2
            # three openings bring each of the three one cell on, and the first one as the last
            tomsk 0 0 = 0
            tomsk 0 1 = 6
            tomsk 0 10 = 60
            tomsk 0 11 = NONE
            """);
        Script.run("ROUND: behind how many TURNS (1 to 200): 1", FOUR + """
            w0,1,0;
            map = 1
            round = 1
            """);
        // ten cells: rings of 5 * 10 and 2 * 10 openings; eleven: of 5 * 11 and 2 * 11
        Script.run("ROUND: behind how many TURNS (1 to 200): 200", """
            text m1;c0;c0;c0;c0;c0;c0;c0;c0;c0;c0;s0,1,0;s1,1,0;s2,1,0;s3,1,0;r4,1,0;s5,1,1;r6,1,1;
            map = 7
            round = 200
            """);
        Script.run("ROUND: behind how many TURNS (1 to 200): NONE", """
            text m1;c0;c0;c0;c0;c0;c0;c0;c0;c0;c0;c0;s0,1,0;s1,1,0;s2,1,0;s3,1,0;r4,1,0;s5,1,1;r6,1,1;
            map = 7
            round = NONE
            """);
        Script.run("where they are now (nowhere, too)", FOUR + """
            r0,1,0;
            map = 1
            round = 8
            times 1 = 0
            round = 2
            """);
    }

    private static void rightAndBest() {
        Script.run("CHANGES: none, one, as many as can be", FOUR + """
            a0,1,0;a1,1,0;a2,1,0;a3,1,0;
            map = 4
            right .. = 15 0 BAD
            swap 0 1 = 1
            right .. = 12 1 BAD
            swap 1 2 = 2
            right .. = 8 2 BAD
            swap 2 3 = 3
            right .. = 0 3 BAD
            """);
        Script.run("NONE: it is night", FOUR + """
            w0,1,0;
            map = 1
            right .. = 1 0
            times 1 = 0
            right .. = 1 NONE
            """);
        Script.run("NONE: the CELLS are not the HOMES, each once", FOUR + """
            a0,1,0;a1,1,0;
            map = 2
            # a cell that is no home
            move 1 2 = 1
            right .. = 1 NONE
            # two in one home
            move 1 0 = 2
            right .. = 1 NONE
            # two in one that is no home
            move 0 3 = 0
            move 1 3 = 0
            right .. = 0 NONE
            # each in the other's
            move 0 1 = 3
            move 1 0 = 3
            right .. = 0 1
            """);
        Script.run("no two in one, of all CELLS", FOUR + """
            a0,1,0;a1,1,0;a2,1,0;a3,9,0;
            map = 4
            best -2 = BAD
            best -1 = 42
            best .. = 0 1 2 3 BAD
            """);
        Script.run("the first such way (the least CELLS)", """
            text m0;c5;c5;c5;c5;c5;a4,1,0;w3,9,0;
            map = 2
            best -1 = 50
            best .. = 0 1 BAD
            """);
        Script.run("no PINS at all", FOUR + """

            map = 0
            right .. = 0 0 BAD
            best -1 = 0
            best 0 = BAD
            """);
    }

    private static void fits() {
        Script.run("n OPENINGS (1 to 12)", FOUR + """
            a0,1,0;
            map = 1
            row 0 0 12 = 12
            row 1 0 40 = 40
            fits 0 0 0 0 3 = BAD
            fits 0 0 0 1 3 = 1
            fits 0 0 0 12 3 = 1
            fits 0 0 0 13 3 = BAD
            fits 0 0 1 12 3 = PLACE
            fits 0 1 28 12 3 = 1
            fits 0 1 29 12 3 = PLACE
            set 0 11 1 = 1
            fits 0 0 0 11 3 = 1
            fits 0 0 0 12 3 = 0
            """);
        Script.run("SORTS: KINDS (bits 1 to 5)", "text m0;c1;c2;c3;c4;a0,1,0;\n" + """
            map = 1
            row 0 0 1 = 1
            # all of them, never bit 0
            fits 0 0 0 1 0 = 62
            set 0 0 1 = 1
            fits 0 0 0 1 0 = 0
            """);
        Script.run("SLIPS (0 to 15, bits)", """
            text m1;c0;c0;c0;c0;c0;c0;c0;c0;c0;c0;c0;c0;c0;c0;c0;c0;r0,1,0;
            map = 1
            row 0 0 1 = 1
            fits 0 0 0 1 1 = 1
            set 0 0 15 = 15
            fits 0 0 0 1 1 = 32768
            """);
        Script.run("HOMES: CELLS (bits), also one that is another's", FOUR + """
            o0,1,0;a3,1,0;
            map = 2
            row 0 0 1 = 1
            fits 0 0 0 1 2 = 1
            set 0 0 3 = 3
            fits 0 0 0 1 2 = 8
            set 0 0 4 = 4
            fits 0 0 0 1 2 = 0
            """);
        Script.run("STARTS: CELLS (bits) it may be in now, LAST too by night", FOUR + """
            a0,1,0;r1,1,0;
            map = 2
            row 0 0 1 = 1
            fits 0 0 0 1 3 = 1
            fits 1 0 0 1 3 = 8
            times 1 = 0
            fits 0 0 0 1 3 = 1
            fits 1 0 0 1 3 = 8
            set 0 0 3 = 3
            fits 0 0 0 1 3 = 8
            fits 1 0 0 1 3 = 4
            """);
        Script.run("by night a whale is in LAST, any other one in THE TRAY", FOUR + """
            a0,1,0;w1,1,0;
            map = 2
            move 0 2 = 0
            move 1 3 = 1
            times 1 = 0
            row 0 0 2 = 2
            set 0 0 2 = 2
            set 0 1 3 = 3
            # where it was: an agent, one he mixes, a whale; at home: an old one; one on: a rover
            fits 0 0 0 1 0 = 38
            fits 0 0 1 1 0 = 8
            fits 1 0 1 1 0 = 38
            set 0 1 0 = 0
            fits 0 0 1 1 0 = 16
            fits 1 0 1 1 0 = 8
            """);
    }

    private static void leftOut() {
        Script.run("by c of 10: 0 and 10", FOUR + """
            a0,1,0;w1,1,0;o2,1,0;
            map = 3
            left 0 -1 0 = BAD
            left 0 0 .. = 1 1
            left 0 10 .. = 0 1
            left 0 11 0 = BAD
            left 1 0 .. = 1 1
            left 1 10 .. = 1 1
            left 3 0 .. = 0 1
            left 3 10 .. = 0 1
            left 2 1 .. = 9 10
            left 2 9 .. = 1 10
            """);
        Script.run("nothing is done in its turn; LAST stays", FOUR + """
            s0,1,0;a1,1,0;
            map = 2
            # both are put back, or the agent alone, into its own
            left 0 3 .. = 49 100
            left 1 3 .. = 91 100
            """);
        Script.run("each PIN that is in THE TRAY then, by day and by night", FOUR + """
            a0,1,0;a1,1,0;
            map = 2
            move 1 0 = 1
            left 0 3 .. = 91 100
            times 1 = 0
            left 0 3 .. = 91 100
            times 1 = 1
            left 0 3 .. = 91 100
            """);
    }

    private static void years() {
        Script.run("n OPENINGS (0 to 30), a SEED (1 to 999999)", """
            text m3;c1;c2;c3;c4;c5;r0,1,0;
            map = 1
            drawn 0 1 .. = 0 1 BAD
            # X is 1774597664, SLIP 0, moved to 4
            drawn 1 999999 .. = 5 0 BAD
            # X is 16807: SLIP 7, moved to 2, put back into 4
            drawn 1 1 .. = 5 0
            drawn 31 1 0 = BAD
            drawn -1 1 0 = BAD
            drawn 1 0 0 = BAD
            drawn 1 1000000 0 = BAD
            """);
        Script.run("30 OPENINGS", """
            text m3;c9;c9;c9;c9;a0,9,0;
            map = 1
            drawn 30 5 0 = 2430
            drawn 29 5 0 = 2349
            times 1 = 0
            drawn 30 5 0 = 2430
            """);
        Script.run("none: nothing", """
            text m3;c9;c9;c9;c9;
            map = 0
            drawn 30 5 .. = 0 0 BAD
            """);
        Script.run("is moved, if it is day", """
            text m3;c1;c2;c3;c4;c5;a0,1,0;
            map = 1
            # moved to 2; by night it stays in 0
            drawn 1 1 .. = 3 0
            times 1 = 0
            drawn 1 1 .. = 1 1
            # at the second opening it is day: X is 282475249, moved to 4
            drawn 2 1 .. = 6 0
            """);
    }

    private static void asks() {
        Script.run("THE TRACE (the first 16)", FOUR + """
            s0,1,0;
            map = 1
            trace 0 = NONE
            ask 0 0 = -1
            trace .. = 12 11 10 24 21 20 NONE NONE NONE NONE NONE NONE NONE NONE NONE NONE NONE
            ask 0 1 = 0
            trace .. = 24 21 20 NONE
            ask 1 0 = BAD
            ask 0 2 = BAD
            ask 0 -1 = BAD
            trace .. = 24 21 20 NONE
            """);
        Script.run("LAST by day is the CELL it is in, and by night it stays", FOUR + """
            a0,1,0;
            map = 1
            ask 0 1 = 0
            move 0 3 = 0
            ask 0 1 = 3
            times 1 = 0
            ask 0 1 = 3
            """);
    }
}
