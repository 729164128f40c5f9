/** Promises 1 and 6 to 8: a new object, the tape, what is read from it and each fault. */
public final class MapTest {
    private static final String LAW_AND_CELLS = "m1;c1;c2;c3;c4;";

    public static void main(String[] args) {
        newObject();
        feeding();
        reading();
        faultsOfTheLaw();
        faultsOfCells();
        faultsOfPins();
        whatStays();
        Script.end();
    }

    private static void newObject() {
        Script.run("a new object", """
            count .. = 0 0 0 0 0 0 0 0 0 0 BAD
            fault = 0
            status = 0
            trace 0 = NONE
            undo = STATE
            times 1 = STATE
            slip 1 = STATE
            earned 0 = STATE
            round = STATE
            right .. = STATE STATE STATE
            best .. = STATE STATE
            drawn 1 1 0 = STATE
            image .. = STATE STATE BAD
            restore .. = STATE STATE BAD
            move 0 0 = BAD
            swap 0 1 = BAD
            work 0 1 = BAD
            pin 0 0 = BAD
            cell 0 0 = BAD
            ahead 0 0 = BAD
            tomsk 0 0 = BAD
            left 0 0 0 = BAD
            kind 0 = BAD
            as 0 0 = BAD
            ask 0 0 = BAD
            # STATE comes ahead of BAD
            times 99 = STATE
            slip 99 = STATE
            earned 99 = STATE
            best -9 = STATE
            drawn -1 0 9 = STATE
            """);
    }

    private static void feeding() {
        Script.run("feed", """
            feed 0 = 1
            feed 255 = 2
            feed -1 = BAD
            feed 256 = BAD
            feed MIN = BAD
            feed MAX = BAD
            count 9 = 2
            map = -1000100
            count 9 = 0
            """);
        PinBoards boards = new PinBoards();
        for (int n = 1; n <= 130; n++) {
            Script.due("feed " + n, boards.feed(n), n);
        }
        Script.due("feed 131", boards.feed('m'), PinBoards.FULL);
        Script.due("feed 256 when full", boards.feed(256), PinBoards.BAD);
        Script.due("count 9", boards.count(9), 130);
        Script.due("map", boards.map(), -1000100);
        Script.due("feed after map", boards.feed('m'), 1);
    }

    private static void reading() {
        Script.run("a whole map", """
            text m15;c0;c9;c05;c1;a0,1,0;s1,9,3;r2,02,1;o03,3,2;
            map = 4
            fault = 0
            count .. = 0 4 4 0 1 15 0 0 0 0
            pin 0 .. = 0 1 0 0 0 BAD
            pin 1 .. = 1 9 3 1 1 BAD
            pin 2 .. = 2 2 1 2 2 BAD
            pin 3 .. = 3 3 2 3 3 BAD
            cell 0 .. = 0 1 0 BAD
            cell 1 .. = 9 2 1 BAD
            cell 2 .. = 5 4 2 BAD
            cell 3 .. = 1 8 3 BAD
            kind .. = 1 2 3 4 BAD
            """);
        Script.run("a map without pins", """
            text m0;c1;c2;c3;c4;
            map = 0
            count .. = 0 4 0 0 1 0 0 0 0 0
            cell 3 .. = 4 0 NONE
            pin 0 0 = BAD
            round = 1
            right .. = 0 0 BAD
            best -1 = 0
            best 0 = BAD
            earned 60 = 0
            left 0 5 0 = 0
            left 0 5 1 = 1
            drawn 30 5 0 = 0
            drawn 30 5 1 = 0
            times 1 = 0
            right 1 = NONE
            round = 1
            """);
        Script.run("as many cells and pins as there is room for", """
            text m7;c0;c1;c2;c3;c4;c5;c6;c7;c8;c9;c0;c1;c2;c3;c4;c5;
            text w15,1,0;w14,2,1;w13,3,2;w12,4,3;w11,5,0;w10,6,1;w9,7,2;
            count 9 = 106
            map = 7
            count 1 = 16
            count 2 = 7
            cell 15 .. = 5 1 0
            cell 9 .. = 9 64 6
            """);
    }

    private static void faultsOfTheLaw() {
        Script.fault("", 0, 1);
        Script.fault("c1;", 0, 1);
        Script.fault("M1;", 0, 1);
        Script.fault(" m1;", 0, 1);
        Script.fault("1m;", 0, 1);
        Script.fault(";", 0, 1);
        Script.fault("m", 1, 1);
        Script.fault("m;", 1, 1);
        Script.fault("mm1;", 1, 1);
        Script.fault("m 1;", 1, 1);
        Script.fault("m-1;", 1, 1);
        Script.fault("m16;", 1, 2);
        Script.fault("m99", 1, 2);
        Script.fault("m100;", 1, 1);
        Script.fault("m0001;", 1, 1);
        Script.fault("m001", 1, 1);
        Script.fault("m1", 2, 1);
        Script.fault("m15", 3, 1);
        Script.fault("m1,", 2, 1);
        Script.fault("m1c", 2, 1);
        Script.fault("m1 ;", 2, 1);
        Script.fault("m1;", 3, 1);
        Script.fault("m1;a0,1,0;", 3, 1);
        Script.fault("m1;5", 3, 1);
        Script.fault("m1;555", 3, 1);
        Script.fault("m1;m1;", 3, 1);
        Script.fault("m1;" + (char) 200, 3, 1);
        Script.fault("m1;" + (char) 0, 3, 1);
    }

    private static void faultsOfCells() {
        Script.fault("m1;c", 4, 1);
        Script.fault("m1;c;", 4, 1);
        Script.fault("m1;c10;", 4, 2);
        Script.fault("m1;c99", 4, 2);
        Script.fault("m1;c010;", 4, 1);
        Script.fault("m1;c1", 5, 1);
        Script.fault("m1;c1,", 5, 1);
        Script.fault("m1;c1;c1;c1;", 12, 1);
        Script.fault("m1;c1;c1;c1;a0,1,0;", 12, 1);
        Script.fault("m1;c1;c1;c1;x", 12, 1);
        Script.fault(LAW_AND_CELLS + "x", 15, 1);
        Script.fault(LAW_AND_CELLS + "m1;", 15, 1);
        Script.fault(LAW_AND_CELLS + ";", 15, 1);
        Script.fault(LAW_AND_CELLS + "C1;", 15, 1);
        Script.fault(LAW_AND_CELLS + "12", 15, 1);
        String sixteen = "m1;" + "c1;".repeat(16);
        Script.fault(sixteen + "c", 51, 3);
        Script.fault(sixteen + "c1;", 51, 3);
        Script.fault(sixteen + "c10;", 51, 3);
        Script.fault(sixteen + "b", 51, 1);
        Script.fault(sixteen + "a16,1,0;", 52, 2);
    }

    private static void faultsOfPins() {
        Script.fault(LAW_AND_CELLS + "a", 16, 1);
        Script.fault(LAW_AND_CELLS + "a,", 16, 1);
        Script.fault(LAW_AND_CELLS + "aa", 16, 1);
        Script.fault(LAW_AND_CELLS + "a4,1,0;", 16, 2);
        Script.fault(LAW_AND_CELLS + "a400,1,0;", 16, 1);
        Script.fault(LAW_AND_CELLS + "a0", 17, 1);
        Script.fault(LAW_AND_CELLS + "a0;", 17, 1);
        Script.fault(LAW_AND_CELLS + "a0,", 18, 1);
        Script.fault(LAW_AND_CELLS + "a0,0,0;", 18, 2);
        Script.fault(LAW_AND_CELLS + "a0,10,0;", 18, 2);
        Script.fault(LAW_AND_CELLS + "a0,001,0;", 18, 1);
        Script.fault(LAW_AND_CELLS + "a0,1", 19, 1);
        Script.fault(LAW_AND_CELLS + "a0,1;", 19, 1);
        Script.fault(LAW_AND_CELLS + "a0,1,", 20, 1);
        Script.fault(LAW_AND_CELLS + "a0,1,4;", 20, 2);
        Script.fault(LAW_AND_CELLS + "a0,1,;", 20, 1);
        Script.fault(LAW_AND_CELLS + "a0,1,0", 21, 1);
        Script.fault(LAW_AND_CELLS + "a0,1,0,", 21, 1);
        Script.fault(LAW_AND_CELLS + "a0,1,0;c1;", 22, 1);
        Script.fault(LAW_AND_CELLS + "a0,1,0;m", 22, 1);
        Script.fault(LAW_AND_CELLS + "a0,1,0;b", 22, 1);
        Script.fault(LAW_AND_CELLS + "a0,1,0;1", 22, 1);
        Script.fault(LAW_AND_CELLS + "a0,1,0;s0,1,0;", 23, 2);
        Script.fault(LAW_AND_CELLS + "a0,1,0;s1,1,0;w00,1,0;", 30, 2);
        Script.fault(LAW_AND_CELLS + "a0,1,0;s1,1,0;w001,1,0;", 30, 1);
        String cells = "m1;" + "c1;".repeat(9);
        StringBuilder seven = new StringBuilder(cells);
        for (int pin = 0; pin < 7; pin++) {
            seven.append("aswroaa".charAt(pin)).append(pin).append(",1,0;");
        }
        Script.fault(seven + "a", 79, 3);
        Script.fault(seven + "w7,1,0;", 79, 3);
        Script.fault(seven + "x", 79, 1);
        Script.fault(seven + "c1;", 79, 1);
    }

    private static void whatStays() {
        Script.run("a fault leaves all but the tape", """
            row 1 1 3 = 3
            text m3;c5;c0;c9;c2;a0,3,1;
            map = 1
            image 0 = 1
            times 3 = 0
            work 1 8 = 0
            text m1;c1;c1;c1;c1;a1,1,1;a2,1,1;a9,1,1;
            map = -1000130
            fault = 2
            count .. = 1 4 1 3 0 3 15 1 4 0
            pin 0 .. = 0 3 1 NONE 0
            cell 1 0 = 8
            map = -1000100
            fault = 1
            count 8 = 4
            undo = 3
            """);
        Script.run("a map stands in place of the one before", """
            row 1 1 3 = 3
            text m3;c5;c0;c9;c2;c4;a0,3,1;a1,4,0;
            map = 2
            image 0 = 1
            times 3 = 0
            ask 0 0 = 3
            as 0 2 = KIND
            text m;
            map = -1000101
            text m2;c1;c2;c3;c4;w3,9,2;
            map = 1
            fault = 1
            count .. = 1 4 1 0 1 2 0 0 0 0
            pin 0 .. = 3 9 2 3 3
            cell 3 .. = 4 1 0
            cell 4 0 = BAD
            pin 1 0 = BAD
            undo = STATE
            trace .. = 11 10 21 20 NONE
            status = 3
            restore 0 = 1
            count .. = 1 5 2 0 1 3 0 0 0 0
            pin 0 .. = 0 3 1 0 0
            pin 1 .. = 1 4 0 1 1
            cell 2 0 = 9
            """);
    }
}
