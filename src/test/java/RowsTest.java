/** Promises 2 to 5 and 33: rows, what is found in them, and in which order. */
public final class RowsTest {
    public static void main(String[] args) {
        laying();
        setting();
        copying();
        dropping();
        statuses();
        Script.end();
    }

    private static void laying() {
        Script.run("row", """
            count 0 = 0
            row 0 0 0 = 0
            row 7 2 40 = 40
            count 0 = 2
            row -1 0 1 = BAD
            row 8 0 1 = BAD
            row MIN 0 1 = BAD
            row MAX 0 1 = BAD
            row 0 -1 1 = BAD
            row 0 3 1 = BAD
            row 0 0 41 = BAD
            row 0 0 MAX = BAD
            row 0 0 -1 = SIZE
            row 0 0 MIN = SIZE
            row 8 0 -1 = BAD
            row 0 3 -1 = BAD
            # what is refused or found changes nothing
            drop 0 = 0
            drop 7 = 40
            count 0 = 0
            """);
        Script.run("row in place of what is there", """
            row 3 0 4 = 4
            set 3 3 9 = 9
            set 3 0 200 = -56
            row 3 1 5 = 5
            count 0 = 1
            row 4 1 5 = 5
            set 4 0 1 = 1
            set 4 3 1 = 1
            # the new items are all 0, as fits tells of a pin in cell 0
            text m0;c1;c1;c1;c1;a0,1,0;
            map = 1
            fits 0 3 0 5 0 = 62
            fits 0 4 0 1 0 = 0
            fits 0 4 1 2 0 = 62
            fits 0 4 2 2 0 = 0
            set 3 0 200 = 200
            drop 3 = 5
            """);
    }

    private static void setting() {
        Script.run("set", """
            row 0 0 2 = 2
            row 1 1 2 = 2
            row 2 2 2 = 2
            row 3 2 0 = 0
            set 0 0 127 = 127
            set 0 0 128 = -128
            set 0 0 255 = -1
            set 0 0 256 = 0
            set 0 0 -129 = 127
            set 0 1 MAX = -1
            set 0 1 MIN = 0
            set 1 0 32767 = 32767
            set 1 0 32768 = -32768
            set 1 0 65535 = -1
            set 1 0 65536 = 0
            set 1 1 -32769 = 32767
            set 2 0 MAX = MAX
            set 2 1 MIN = MIN
            set -1 0 0 = BAD
            set 8 0 0 = BAD
            set 4 0 0 = NULL
            set 4 -1 0 = NULL
            set 0 2 0 = PLACE
            set 0 -1 0 = PLACE
            set 0 MAX 0 = PLACE
            set 0 MIN 0 = PLACE
            set 3 0 0 = PLACE
            """);
    }

    private static void copying() {
        Script.run("copy, refused and found", """
            row 0 0 5 = 5
            row 1 0 3 = 3
            row 2 1 3 = 3
            copy -1 0 0 0 0 = BAD
            copy 0 0 8 0 0 = BAD
            copy 8 0 7 0 0 = BAD
            copy 0 0 7 0 0 = NULL
            copy 7 0 0 0 0 = NULL
            copy 7 0 7 0 -1 = NULL
            copy 7 0 2 0 -1 = NULL
            copy 0 0 2 0 1 = STORE
            copy 2 0 0 0 1 = STORE
            copy 0 -1 2 0 1 = STORE
            copy 0 0 2 0 0 = STORE
            copy 0 0 1 0 -1 = PLACE
            copy 0 -1 1 0 1 = PLACE
            copy 0 0 1 -1 1 = PLACE
            copy 0 -1 1 0 0 = PLACE
            copy 0 0 1 -1 0 = PLACE
            copy 0 3 1 0 3 = PLACE
            copy 0 0 1 1 3 = PLACE
            copy 0 0 1 0 4 = PLACE
            copy 0 6 1 0 0 = PLACE
            copy 0 0 1 4 0 = PLACE
            copy 0 MAX 1 0 1 = PLACE
            copy 0 0 1 MAX 1 = PLACE
            copy 0 1 1 1 MAX = PLACE
            copy 0 MIN 1 0 MAX = PLACE
            copy 0 0 1 0 MIN = PLACE
            copy 0 5 1 3 0 = 0
            copy 0 0 1 0 3 = 3
            copy 0 2 0 2 3 = 3
            """);
        String pin = """
            text m0;c1;c1;c1;c1;c1;c1;o0,1,0;
            map = 1
            """;
        String numbers = """
            row 0 0 6 = 6
            set 0 1 1 = 1
            set 0 2 2 = 2
            set 0 3 3 = 3
            set 0 4 4 = 4
            set 0 5 5 = 5
            """;
        // HOMES of an old one tells the cell that a row's item is
        Script.run("copy to later places of the same row", pin + numbers + """
            copy 0 0 0 1 5 = 5
            fits 0 0 0 1 2 = 1
            fits 0 0 1 1 2 = 1
            fits 0 0 2 1 2 = 2
            fits 0 0 3 1 2 = 4
            fits 0 0 4 1 2 = 8
            fits 0 0 5 1 2 = 16
            """);
        Script.run("copy to earlier places of the same row", pin + numbers + """
            copy 0 1 0 0 5 = 5
            fits 0 0 0 1 2 = 2
            fits 0 0 1 1 2 = 4
            fits 0 0 2 1 2 = 8
            fits 0 0 3 1 2 = 16
            fits 0 0 4 1 2 = 32
            fits 0 0 5 1 2 = 32
            """);
        Script.run("copy to another row", pin + numbers + """
            row 5 0 4 = 4
            copy 0 3 5 1 2 = 2
            fits 0 5 0 1 2 = 1
            fits 0 5 1 1 2 = 8
            fits 0 5 2 1 2 = 16
            fits 0 5 3 1 2 = 1
            fits 0 0 3 1 2 = 8
            """);
    }

    private static void dropping() {
        Script.run("drop", """
            row 2 1 7 = 7
            drop 2 = 7
            drop 2 = NULL
            drop 3 = NULL
            drop -1 = BAD
            drop 8 = BAD
            count 0 = 0
            set 2 0 0 = NULL
            row 2 0 1 = 1
            count 0 = 1
            """);
    }

    private static void statuses() {
        Script.run("status", """
            status = 0
            set 0 0 0 = NULL
            status = 1
            # refusals leave it, and so do calls with neither a row nor as()
            set 8 0 0 = BAD
            row 0 0 41 = BAD
            copy 8 0 0 0 0 = BAD
            drop 8 = BAD
            fits 0 0 0 1 0 = BAD
            as 0 0 = BAD
            times 1 = STATE
            count 0 = 0
            count 10 = BAD
            feed 5 = 1
            map = -1000100
            status = 1
            row 0 0 -1 = SIZE
            status = 4
            row 0 0 2 = 2
            status = 0
            set 0 2 0 = PLACE
            status = 2
            set 0 1 0 = 0
            status = 0
            row 1 1 2 = 2
            copy 0 0 1 0 1 = STORE
            status = 5
            copy 0 0 0 0 1 = 1
            status = 0
            drop 5 = NULL
            status = 1
            drop 1 = 2
            status = 0
            text m0;c1;c1;c1;c1;a0,1,0;
            map = 1
            as 0 4 = KIND
            status = 3
            as 0 6 = BAD
            as 1 1 = BAD
            kind 0 = 1
            status = 3
            as 0 1 = 0
            status = 0
            fits 0 6 0 1 0 = NULL
            status = 1
            fits 0 0 2 1 0 = PLACE
            status = 2
            fits 0 0 0 13 0 = BAD
            status = 2
            fits 0 0 0 1 0 = 62
            status = 0
            """);
    }
}
