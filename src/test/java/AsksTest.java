/** Promises 28 to 32: kinds, what a pin is taken as, bodies and their trace, counts. */
public final class AsksTest {
    private static final String MAP = """
        text m3;c5;c0;c9;c2;c7;c1;a0,3,1;s2,5,1;r4,2,0;o1,9,2;w5,4,1;
        map = 5
        """;

    public static void main(String[] args) {
        kinds();
        asking();
        askingByNight();
        traceStays();
        counting();
        Script.end();
    }

    private static void kinds() {
        Script.run("kind", """
            kind 0 = BAD
            """ + MAP + """
            kind .. = 1 2 3 4 5 BAD
            kind -1 = BAD
            kind MAX = BAD
            """);
        Script.run("as", """
            as 0 0 = BAD
            """ + MAP + """
            as 0 .. = 0 0 KIND KIND KIND KIND BAD
            as 1 .. = 1 1 1 KIND KIND KIND BAD
            as 2 .. = 2 2 KIND 2 KIND KIND BAD
            as 3 .. = 3 KIND KIND KIND 3 KIND BAD
            as 4 .. = 4 KIND KIND KIND 4 4 BAD
            as 5 0 = BAD
            as -1 0 = BAD
            as 0 -1 = BAD
            as 5 9 = BAD
            """);
    }

    private static void asking() {
        Script.run("ask, refused", """
            ask 0 0 = BAD
            """ + MAP + """
            ask 0 -1 = BAD
            ask 0 2 = BAD
            ask 5 0 = BAD
            ask -1 1 = BAD
            trace 0 = NONE
            """);
        Script.run("an agent", MAP + """
            move 0 3 = 0
            ask 0 0 = 6
            trace .. = 11 10 21 20 NONE NONE
            ask 0 1 = 3
            trace .. = 21 20 NONE NONE
            """);
        Script.run("a mixed one", MAP + """
            ask 1 0 = -11
            trace .. = 12 11 10 24 21 20 NONE
            ask 1 1 = 6
            trace .. = 24 21 20 NONE
            """);
        Script.run("a rover", MAP + """
            ask 2 0 = -992
            trace .. = 11 10 22 21 20 NONE
            ask 2 1 = -994
            trace .. = 22 21 20 NONE
            """);
        Script.run("an old one", MAP + """
            ask 3 0 = -91
            trace .. = 13 10 NONE
            ask 3 1 = 94
            trace .. = 23 20 13 10 NONE
            """);
        Script.run("a whale", MAP + """
            ask 4 0 = -192
            trace .. = 14 13 10 NONE
            ask 4 1 = 196
            trace .. = 23 20 14 13 10 NONE
            """);
    }

    private static void askingByNight() {
        Script.run("LAST by night", MAP + """
            move 1 5 = 2
            move 2 0 = 4
            times 1 = 0
            ask 1 1 = 12
            ask 2 1 = -998
            ask 0 1 = 0
            ask 4 1 = 196
            """);
    }

    private static void traceStays() {
        Script.run("the trace", MAP + """
            trace -1 = NONE
            trace 16 = NONE
            ask 4 1 = 196
            ask 3 0 = -91
            trace .. = 13 10 NONE
            ask 9 0 = BAD
            ask 0 2 = BAD
            trace .. = 13 10 NONE
            times 1 = 0
            as 0 1 = 0
            kind 0 = 1
            trace .. = 13 10 NONE
            trace MIN = NONE
            trace MAX = NONE
            trace -1 = NONE
            """);
    }

    private static void counting() {
        Script.run("count", MAP + """
            row 3 0 1 = 1
            row 4 0 0 = 0
            feed 1 = 1
            feed 1 = 2
            feed 1 = 3
            times 3 = 0
            count .. = 2 6 5 3 0 3 64 15 3 3 BAD
            count -1 = BAD
            count MIN = BAD
            count MAX = BAD
            times 1 = 1
            count 4 = 1
            count 7 = 0
            drop 4 = 0
            count 0 = 1
            """);
    }
}
