/** The Terms ahead of the promises: each sentence that names a bound, by its words, at the bound and beyond it. */
public final class TermsBoundsTest {
    private static final String FOUR = "m1;c1;c2;c3;c4;";

    public static void main(String[] args) {
        numbers();
        refusalsInOrder();
        findingsInOrder();
        rows();
        tape();
        textsRead();
        textsRefused();
        faultsInOrder();
        oneByteAnother();
        Script.end();
    }

    private static void numbers() {
        Script.run("Numbers go from 0 on", """
            row 0 0 1 = 1
            set 0 0 5 = 5
            text m0;c9;c2;c3;c4;a0,7,3;
            map = 1
            pin 0 .. = 0 7 3 0 0
            cell 0 .. = 9 1 0
            kind 0 = 1
            image 0 = 1
            row -1 0 1 = BAD
            set 0 -1 5 = PLACE
            pin -1 0 = BAD
            cell -1 0 = BAD
            image -1 = BAD
            """);
        Script.run("All that is divided is cut towards 0", """
            text m0;c1;c9;c0;c0;a0,1,0;a1,1,0;
            map = 2
            move 1 0 = 1
            # 1 by 2, of each
            earned 2 = 0
            move 0 1 = 0
            move 1 1 = 0
            # 9 by 2, of each
            earned 2 = 8
            """);
        Script.run("but fractions, in lowest terms (0 is 0 by 1)", """
            text m0;c1;c1;c1;c1;a0,1,0;a1,1,0;w2,1,0;
            map = 3
            left 0 5 .. = 1 2
            left 0 10 .. = 0 1
            left 3 5 .. = 0 1
            left 0 0 .. = 1 1
            left 2 10 .. = 1 1
            move 1 0 = 1
            left 0 5 .. = 3 4
            left 0 8 .. = 9 25
            """);
        Script.run("Sets are bits", """
            text m0;c1;c1;c1;c1;a0,1,0;a1,1,0;a2,1,0;
            map = 3
            move 0 2 = 0
            cell 2 1 = 5
            cell 0 1 = 0
            right 0 = 6
            times 1 = 0
            count 7 = 7
            """);
    }

    private static void refusalsInOrder() {
        Script.run("the first of these that fits: BAD, STATE", """
            text m0;c1;c1;c1;c1;a0,1,0;a1,1,0;
            map = 2
            restore 2 = BAD
            restore 1 = STATE
            move 2 0 = BAD
            move 0 0 = STATE
            times 1 = 0
            move 0 4 = BAD
            move 0 1 = STATE
            swap 1 1 = BAD
            swap 0 2 = BAD
            swap 0 1 = STATE
            """);
        Script.run("the first of these that fits: BAD, FULL", "text " + "z".repeat(130) + """

            feed -1 = BAD
            feed 256 = BAD
            feed 0 = FULL
            feed 255 = FULL
            """);
        Script.run("but as told: STATE ahead of BAD", """
            times 0 = STATE
            slip -1 = STATE
            earned 61 = STATE
            right 2 = STATE
            best -2 = STATE
            drawn 31 0 2 = STATE
            # and not where it is not told
            image 2 = BAD
            image 1 = STATE
            restore 2 = BAD
            restore 1 = STATE
            """);
    }

    private static void findingsInOrder() {
        Script.run("then FINDINGS: BAD ahead of them", """
            row 8 0 -1 = BAD
            row 0 3 -1 = BAD
            set 8 -1 0 = BAD
            copy 8 -1 0 -1 -1 = BAD
            copy 0 -1 8 -1 -1 = BAD
            drop 8 = BAD
            text m0;c1;c1;c1;c1;a0,1,0;
            map = 1
            fits 1 0 -1 1 0 = BAD
            fits 0 8 -1 1 0 = BAD
            fits 0 0 -1 0 0 = BAD
            fits 0 0 -1 1 4 = BAD
            as 1 5 = BAD
            """);
        Script.run("of several the first in time: NULL, STORE, PLACE", """
            row 0 0 2 = 2
            row 1 1 2 = 2
            set 2 -1 0 = NULL
            copy 0 -1 2 -1 -1 = NULL
            copy 2 -1 0 -1 -1 = NULL
            copy 0 -1 1 -1 -1 = STORE
            copy 0 -1 0 -1 -1 = PLACE
            text m0;c1;c1;c1;c1;a0,1,0;
            map = 1
            fits 0 2 -1 1 0 = NULL
            fits 0 0 -1 1 0 = PLACE
            """);
        Script.run("-1000010 less 1 NULL, 2 PLACE, 3 KIND, 4 SIZE, 5 STORE", """
            row 0 0 1 = 1
            row 1 1 1 = 1
            text m0;c1;c1;c1;c1;a0,1,0;
            map = 1
            drop 7 = -1000011
            status = 1
            set 0 1 0 = -1000012
            status = 2
            as 0 5 = -1000013
            status = 3
            row 0 0 -1 = -1000014
            status = 4
            copy 0 0 1 0 0 = -1000015
            status = 5
            """);
    }

    private static void rows() {
        Script.run("ROWS 0 .. 7 are missing (at first)", """
            drop .. = NULL NULL NULL NULL NULL NULL NULL NULL BAD
            count 0 = 0
            """);
        Script.run("all eight ROWS are there", """
            row 0 0 0 = 0
            row 1 0 1 = 1
            row 2 0 2 = 2
            row 3 1 3 = 3
            row 4 1 4 = 4
            row 5 1 5 = 5
            row 6 2 39 = 39
            row 7 2 40 = 40
            count 0 = 8
            drop .. = 0 1 2 3 4 5 39 40 BAD
            count 0 = 0
            """);
        Script.run("a LANE (0 bytes, 1 shorts, 2 ints)", """
            row 0 0 1 = 1
            row 1 1 1 = 1
            row 2 2 1 = 1
            row 3 3 1 = BAD
            row 3 -1 1 = BAD
            set 0 0 8421504 = -128
            set 1 0 8421504 = -32640
            set 2 0 8421504 = 8421504
            """);
        Script.run("0 to 40 ITEMS", """
            row 0 0 0 = 0
            set 0 0 1 = PLACE
            copy 0 0 0 0 0 = 0
            row 0 0 40 = 40
            set 0 39 1 = 1
            set 0 40 1 = PLACE
            copy 0 0 0 0 40 = 40
            copy 0 40 0 40 0 = 0
            copy 0 41 0 0 0 = PLACE
            row 0 0 41 = BAD
            drop 0 = 40
            """);
        StringBuilder ones = new StringBuilder();
        for (int i = 0; i < 40; i++) {
            ones.append("set 0 ").append(i).append(" 1 = 1\n");
        }
        String zeros = """
            fits 0 0 0 12 3 = 1
            fits 0 0 12 12 3 = 1
            fits 0 0 24 12 3 = 1
            fits 0 0 28 12 3 = 1
            """;
        Script.run("0 at first", "text m0;c1;c1;c1;c1;a0,1,0;\nmap = 1\nrow 0 2 40 = 40\n" + zeros + ones
            + "fits 0 0 28 12 3 = 2\nrow 0 2 40 = 40\n" + zeros + ones + "drop 0 = 40\nrow 0 1 40 = 40\n" + zeros);
    }

    private static void tape() {
        Script.run("THE TAPE has at most 130 bytes", "text " + "c".repeat(129) + """

            count 9 = 129
            feed 99 = 130
            feed 99 = FULL
            count 9 = 130
            map = -1000100
            count 9 = 0
            feed 99 = 1
            """);
        // leading figures make it as long as the tape: 4 + 8 * 4 + 8 * 3 + 7 * 10 bytes
        String text = "m15;" + "c05;".repeat(8) + "c7;".repeat(8)
            + "a00,09,03;s01,08,02;r02,07,01;o03,06,00;w04,05,00;a14,04,00;a15,03,00;";
        Script.run("a MAP of 130 bytes", "text " + text + """

            count 9 = 130
            feed 59 = FULL
            map = 7
            count .. = 0 16 7 0 1 15 0 0 0 0
            pin 6 .. = 15 3 0 15 15
            """);
        String longer = text.replaceFirst("c7;", "c07;");
        Script.run("a MAP of 131 bytes has no end", "text " + longer.substring(0, 130) + """

            feed 59 = FULL
            map = -1000230
            fault = 1
            count 9 = 0
            """);
        // nothing is left of a longer text that was there before
        Script.run("it comes one by one, and begins anew behind a text", "text " + text + """

            map = 7
            text m1;c1;c2;c3;c4;
            map = 0
            text m1;c1;c2;c3;
            map = -1000112
            """);
    }

    private static void read(String sentence, String text, int pins, String calls) {
        Script.run(sentence, "text " + text + "\nmap = " + pins + "\nfault = 0\n" + calls);
    }

    private static void textsRead() {
        read("law: m SLIP ; (0 to 15), least", "m0;c1;c1;c1;c1;", 0, "count 5 = 0");
        read("law: m SLIP ; (0 to 15), most", "m15;c1;c1;c1;c1;", 0, "count 5 = 15");
        read("cell: c WORK ; (0 to 9), least", "m1;c0;c1;c1;c0;", 0, "cell 0 0 = 0\ncell 3 0 = 0");
        read("cell: c WORK ; (0 to 9), most", "m1;c9;c1;c1;c9;", 0, "cell 0 0 = 9\ncell 3 0 = 9");
        read("CELLS, 4 to 16, least", FOUR, 0, "count 1 = 4\ncell 3 0 = 4\ncell 4 0 = BAD");
        read("CELLS, 4 to 16, most", "m1;" + "c1;".repeat(15) + "c8;", 0, "count 1 = 16\ncell 15 0 = 8\ncell 16 0 = BAD");
        read("in a ring", "m1;c1;c1;c1;c1;r3,1,0;", 1, "ahead 0 2 = 0\nahead 0 4 = 1");
        read("SORT: a, s, r, o, w", FOUR + "a0,1,0;s1,1,0;", 2, "kind .. = 1 2 BAD");
        read("SORT: a, s, r, o, w", FOUR + "r0,1,0;o1,1,0;w2,1,0;", 3, "kind .. = 3 4 5 BAD");
        read("a CELL that is HOME, the least and the last", FOUR + "a0,1,0;a3,1,0;", 2, "pin 0 0 = 0\npin 1 0 = 3");
        read("HOME of none told ahead", FOUR + "a3,1,0;a2,1,0;a1,1,0;a0,1,0;", 4, "cell 0 2 = 3\ncell 3 2 = 0");
        read("SKILL, 1 to 9", FOUR + "a0,1,0;a1,9,0;", 2, "pin 0 1 = 1\npin 1 1 = 9");
        read("COLOUR, 0 to 3", FOUR + "a0,1,0;a1,1,3;", 2, "pin 0 2 = 0\npin 1 2 = 3");
        read("{ pin }: none", FOUR, 0, "count 2 = 0\npin 0 0 = BAD");
        read("PINS 0 .. 6, 7 at most", "m1;" + "c1;".repeat(7) + "a0,1,0;a1,1,0;a2,1,0;a3,1,0;a4,1,0;a5,1,0;a6,2,0;", 7,
            "count 2 = 7\npin 6 1 = 2\npin 7 0 = BAD");
        Script.run("TIME 0, it is day, all PINS are in their HOMES, nothing is EARNED; no ACT; IMAGES and ROWS stay", """
            row 6 1 3 = 3
            text m1;c9;c9;c9;c9;a0,9,0;r1,1,0;
            map = 2
            image 1 = 1
            move 0 3 = 0
            times 3 = 0
            count .. = 1 4 2 3 0 1 90 3 4 0
            text m1;c9;c9;c9;c9;a0,9,0;r1,1,0;
            map = 2
            count .. = 1 4 2 0 1 1 0 0 0 0
            pin 0 .. = 0 9 0 0 0
            pin 1 .. = 1 1 0 1 1
            undo = STATE
            restore 1 = 1
            restore 0 = STATE
            drop 6 = 3
            """);
    }

    private static void textsRefused() {
        Script.fault("m16;c1;c1;c1;c1;", 1, 2);
        Script.fault("m1;c10;", 4, 2);
        Script.fault("m1;c1;c1;c1;", 12, 1);
        Script.fault("m1;c1;c1;c1;a0,1,0;", 12, 1);
        Script.fault("m1;" + "c1;".repeat(17), 51, 3);
        Script.fault(FOUR + "a4,1,0;", 16, 2);
        Script.fault(FOUR + "a99,1,0;", 16, 2);
        Script.fault(FOUR + "a2,1,0;a2,1,0;", 23, 2);
        Script.fault(FOUR + "a0,0,0;", 18, 2);
        Script.fault(FOUR + "a0,10,0;", 18, 2);
        Script.fault(FOUR + "a0,1,4;", 20, 2);
        Script.fault("m1;" + "c1;".repeat(8) + "a0,1,0;a1,1,0;a2,1,0;a3,1,0;a4,1,0;a5,1,0;a6,1,0;a7,1,0;", 76, 3);
        // four cells are four homes: a fifth pin's home is another's, whichever it is
        Script.fault(FOUR + "a0,1,0;a1,1,0;a2,1,0;a3,1,0;a3,1,0;", 44, 2);
        for (int letter = 'a'; letter <= 'z'; letter++) {
            if ("asrow".indexOf(letter) < 0 && letter != 'c') {
                Script.fault(FOUR + (char) letter + "0,1,0;", 15, 1);
            }
            if (letter != 'm') {
                Script.fault((char) letter + "1;", 0, 1);
            }
        }
    }

    private static void faultsInOrder() {
        // the first TOKEN that has one (its first byte)
        Script.fault("m16;c10;c123", 1, 2);
        Script.fault("m1;c10;c123", 4, 2);
        Script.fault("m1;c123;c10", 4, 1);
        Script.fault(FOUR + "a0,10,9;", 18, 2);
        Script.fault(FOUR + "a1,1,0;a1,0,9;", 23, 2);
        // of one TOKEN the least
        Script.fault("m160;", 1, 1);
        Script.fault("m016;", 1, 1);
        Script.fault("m1;99", 3, 1);
        Script.fault("m1;" + "c1;".repeat(16) + "a0,1,0;c1;", 58, 1);
        Script.fault("m1;" + "c1;".repeat(8) + "a0,1,0;a1,1,0;a2,1,0;a3,1,0;a4,1,0;a5,1,0;a6,1,0;c1;", 76, 1);
        // the end: how many bytes there are
        Script.fault("", 0, 1);
        Script.fault("m", 1, 1);
        Script.fault("m1", 2, 1);
        Script.fault("m15", 3, 1);
        Script.fault("m1;", 3, 1);
        Script.fault(FOUR + "a0,1,0", 21, 1);
        // a run of three figures or more, at its first
        Script.fault("m000;", 1, 1);
        Script.fault("m1;c0000000000000000000001;", 4, 1);
        Script.fault("m1;c2147483648;", 4, 1);
        Script.fault(FOUR + "a4294967296,1,0;", 16, 1);
        Script.fault(FOUR + "123", 15, 1);
        // nothing else, no blanks
        Script.fault(" m1;c1;", 0, 1);
        Script.fault("m 1;", 1, 1);
        Script.fault("m1 ;", 2, 1);
        Script.fault("m1;\nc1;", 3, 1);
        Script.fault("m1;\tc1;", 3, 1);
        // letters, each by itself
        Script.fault("mm1;", 1, 1);
        Script.fault(FOUR + "as0,1,0;", 16, 1);
    }

    /** Each place of a text with each byte in its stead, ahead of it, or the end there. */
    private static void oneByteAnother() {
        String text = "m9;c1;c2;c3;c4;c5;a0,1,0;w4,2,3;";
        for (int place = 0; place < text.length(); place++) {
            String ahead = text.substring(0, place);
            sameAsModel(ahead);
            for (int letter = 0; letter < 256; letter++) {
                sameAsModel(ahead + (char) letter + text.substring(place + 1));
                sameAsModel(ahead + (char) letter + text.substring(place));
            }
        }
    }

    private static void sameAsModel(String text) {
        PinBoards boards = new PinBoards();
        Model model = new Model();
        for (int i = 0; i < text.length(); i++) {
            boards.feed(text.charAt(i));
            model.call("feed", text.charAt(i));
        }
        Script.due("map of " + text, boards.map(), model.call("map"));
        Script.due("fault of " + text, boards.fault(), model.call("fault"));
        Script.due("cells of " + text, boards.count(1), model.call("count", 1));
        Script.due("pins of " + text, boards.count(2), model.call("count", 2));
    }
}
