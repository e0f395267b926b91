/** Promises 1, 2 and 3: a new object, feed, end. */
public final class TapeTest {
    private static final String SMALL = "data B=tt|ff;match B;tt;";

    public static void main(String[] args) {
        Check check = new Check();
        newObject(check);
        feedCounts(check);
        feedOrder(check);
        endCuts(check);
        check.end();
    }

    private static void newObject(Check check) {
        PatternTrees x = new PatternTrees();
        check.due("new: place()", x.place(), -1);
        check.due("new: told(0)", x.told(0), -1);
        check.due("new: run(0)", x.run(0), -1);
        check.due("new: looks()", x.looks(), -1);
        check.due("new: looked(0)", x.looked(0), -1);
        check.due("new: misses()", x.misses(), -1);
        check.due("new: example(0)", x.example(0), -1);
        check.due("new: never(0)", x.never(0), -1);
        check.due("new: end(20), the tape is empty", x.end(20), -1);
        check.due("new: text()", x.text(), -2);
        check.due("new: place() of the empty text", x.place(), 0);
    }

    private static void feedCounts(Check check) {
        PatternTrees x = new PatternTrees();
        for (int i = 1; i <= 60; i++) {
            check.due("feed " + i, x.feed(0x20202020, 0, -1, 7, 8), 20 * i);
        }
        check.due("feed beyond 1200", x.feed(1, 2, 3, 4, 5), -1);
        check.due("end(19) of 1200", x.end(19), 1199);
        check.due("feed: 1219 would be too many", x.feed(1, 2, 3, 4, 5), -1);
        check.due("end(1): the 20 are the last of the tape", x.end(1), 1180);
        check.due("feed to 1200 again", x.feed(1, 2, 3, 4, 5), 1200);
        // The first four bytes are blanks, so the fifth, a 0, is what cannot stand there.
        check.due("text() of bytes", x.text(), -2);
        check.due("place() of bytes", x.place(), 4);
        check.due("text() empties the tape, with a FAULT too", x.feed(0, 0, 0, 0, 0), 20);
    }

    private static void feedOrder(Check check) {
        PatternTrees x = new PatternTrees();
        // "data A=aa|bb;match A" and ";aa;"
        check.due("feed", x.feed(0x64617461, 0x20413d61, 0x617c6262, 0x3b6d6174, 0x63682041), 20);
        check.due("feed", x.feed(0x3b61613b, 0x80808080, 0x80808080, 0x80808080, 0x80808080), 40);
        check.due("end", x.end(4), 24);
        check.due("text", x.text(), 1);
        check.due("example", Check.example(x), "bb");
        // Bytes above 127 are bytes like others, and none of a token.
        x.feed(0x20ff2020, 0x20202020, 0x20202020, 0x20202020, 0x20202020);
        check.due("text of 255", x.text(), -2);
        check.due("place of 255", x.place(), 1);
    }

    private static void endCuts(Check check) {
        PatternTrees x = new PatternTrees();
        x.feed(0, 0, 0, 0, 0);
        check.due("end(-1)", x.end(-1), -1);
        check.due("end(21)", x.end(21), -1);
        check.due("end(least)", x.end(Integer.MIN_VALUE), -1);
        check.due("end(greatest)", x.end(Integer.MAX_VALUE), -1);
        check.due("end(20)", x.end(20), 20);
        check.due("end(19)", x.end(19), 19);
        check.due("end(19), there are not 20", x.end(19), -1);
        check.due("feed behind 19", x.feed(0, 0, 0, 0, 0), 39);
        check.due("end(0)", x.end(0), 19);
        check.due("end(0), there are not 20", x.end(0), -1);
        PatternTrees y = Check.give(new PatternTrees(), SMALL);
        check.due("text", y.text(), 1);
        check.due("end behind text()", y.end(20), -1);
    }
}
