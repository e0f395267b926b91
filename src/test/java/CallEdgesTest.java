/** Promises 1 to 6: for each sentence of a call the last input inside its boundary and the first one outside. */
public final class CallEdgesTest {
    private static final String EMPTY = "-1 -1 -1 -1 -1, -1:, -1, , ";
    private static final String B = "data B=tt|ff;match B;";

    public static void main(String[] args) {
        Check check = new Check();
        newObject(check);
        feedFills(check);
        feedRefused(check);
        feedBytes(check);
        endArguments(check);
        endCounts(check);
        endBytes(check);
        textEmptiesTheTape(check);
        textKeepsTheSet(check);
        placeOfTheLatest(check);
        told(check);
        objectsApart(check);
        check.end();
    }

    /** "No SET, an empty tape." */
    private static void newObject(Check check) {
        check.due("what a new object tells", Check.state(new PatternTrees()), EMPTY);
        check.due("place()", new PatternTrees().place(), -1);
        check.due("run(0)", new PatternTrees().run(0), -1);
        check.due("end(0)", new PatternTrees().end(0), -1);
        check.due("end(20)", new PatternTrees().end(20), -1);
        check.due("feed()", new PatternTrees().feed(0, 0, 0, 0, 0), 20);
        PatternTrees x = new PatternTrees();
        check.due("text()", x.text(), -2);
        check.due("place() of an empty tape", x.place(), 0);
        check.due("what it tells then", Check.state(x), EMPTY);
    }

    /** "how many it has" */
    private static void feedFills(Check check) {
        PatternTrees x = new PatternTrees();
        for (int i = 1; i <= 60; i++) {
            check.due("feed() " + i, x.feed(0x20202020, 0x20202020, 0x20202020, 0x20202020, 0x20202020), 20 * i);
        }
        check.due("the 61st", x.feed(0, 0, 0, 0, 0), -1);
        check.due("and again", x.feed(0, 0, 0, 0, 0), -1);
        check.due("text() of 1200 blanks", x.text(), -2);
        check.due("place()", x.place(), 1200);
        check.due("feed() behind text()", x.feed(0, 0, 0, 0, 0), 20);
    }

    /** "NONE (none comes): it would have more than 1200." */
    private static void feedRefused(Check check) {
        for (int n = 0; n <= 20; n++) {
            PatternTrees x = Check.give(new PatternTrees(), " ".repeat(1180 - 20 + n));
            check.due("feed() behind " + (1160 + n), x.feed(0x41414141, 0, 0, 0, 0), 1180 + n);
            check.due("a second feed() behind " + (1160 + n), x.feed(0x42424242, 0, 0, 0, 0), n == 0 ? 1200 : -1);
            check.due("text()", x.text(), -2);
            check.due("place()", x.place(), 1160 + n);
        }
        String text = B + "tt;";
        PatternTrees full = Check.give(new PatternTrees(), text + " ".repeat(1200 - text.length()));
        check.due("feed() to a full tape", full.feed(-1, -1, -1, -1, -1), -1);
        check.due("none has come", full.text(), 1);
        PatternTrees near = Check.give(new PatternTrees(), text + " ".repeat(1181 - text.length()));
        check.due("feed() to 1181", near.feed(-1, -1, -1, -1, -1), -1);
        check.due("none has come to 1181", near.text(), 1);
        PatternTrees last = Check.give(new PatternTrees(), " ".repeat(1180));
        check.due("feed() to 1180", last.feed(0x20202020, 0x20202020, 0x20202020, 0x20202020, 0x20202023), 1200);
        last.text();
        check.due("the last of 1200 bytes", last.place(), 1199);
    }

    /** "the first number's highest one first": each of the twenty, also those with the highest bit. */
    private static void feedBytes(Check check) {
        for (int at = 0; at < 20; at++) {
            for (int b : new int[] {0, 127, 128, 255}) {
                int[] five = {0x20202020, 0x0a0a0a0a, 0x20202020, 0x0a200a20, 0x20202020};
                int shift = 24 - at % 4 * 8;
                five[at / 4] = five[at / 4] & ~(255 << shift) | b << shift;
                PatternTrees x = new PatternTrees();
                x.feed(five[0], five[1], five[2], five[3], five[4]);
                check.due("text() of " + b + " at " + at, x.text(), -2);
                check.due("place() of " + b + " at " + at, x.place(), at);
            }
        }
    }

    /** "NONE: n is not 0 .. 20" */
    private static void endArguments(Check check) {
        for (int n = -3; n <= 24; n++) {
            PatternTrees x = Check.give(new PatternTrees(), " ".repeat(40));
            boolean inside = n >= 0 && n <= 20;
            check.due("end(" + n + ") of 40", x.end(n), inside ? 20 + n : -1);
            check.due("what is there then", x.feed(0, 0, 0, 0, 0), inside ? 40 + n : 60);
        }
        PatternTrees x = Check.give(new PatternTrees(), " ".repeat(40));
        for (int n : new int[] {Integer.MIN_VALUE, Integer.MIN_VALUE + 20, Integer.MAX_VALUE, 256, 1 << 16, -20}) {
            check.due("end(" + n + ")", x.end(n), -1);
        }
        check.due("none of it is lost", x.feed(0, 0, 0, 0, 0), 60);
    }

    /** "or there are not 20." */
    private static void endCounts(Check check) {
        for (int length = 0; length <= 22; length++) {
            for (int n : new int[] {0, 1, 19, 20}) {
                PatternTrees x = Check.give(new PatternTrees(), " ".repeat(length));
                check.due("end(" + n + ") of " + length, x.end(n), length < 20 ? -1 : length - 20 + n);
                check.due("feed() then", x.feed(0, 0, 0, 0, 0), length < 20 ? length + 20 : length + n);
            }
        }
        PatternTrees x = Check.give(new PatternTrees(), " ".repeat(1200));
        check.due("end(20) of 1200", x.end(20), 1200);
        for (int i = 1; i <= 60; i++) {
            check.due("end(0), " + i + " times", x.end(0), 1200 - 20 * i);
        }
        check.due("end(0) of nothing", x.end(0), -1);
    }

    /** "Of the last 20 bytes only the first n stay": also where those came by two calls. */
    private static void endBytes(Check check) {
        for (int n = 0; n <= 20; n++) {
            PatternTrees x = Check.give(new PatternTrees(), " ".repeat(30));
            x.feed(0x23232323, 0x23232323, 0x23232323, 0x23232323, 0x23232323);
            check.due("end(" + n + ") of 50", x.end(n), 30 + n);
            check.due("text()", x.text(), -2);
            check.due("place() of what stays", x.place(), 30);
        }
        PatternTrees x = Check.give(new PatternTrees(), B + "tt;   ff;    ");
        // 34 bytes: the last 20 begin at the 14th; of those 10 stay, which end behind tt;
        check.due("feed() and end(0)", x.feed(0, 0, 0, 0, 0) + x.end(0), 54 + 34);
        check.due("end(10) of 34", x.end(10), 24);
        check.due("text() of what stays", x.text(), 1);
        PatternTrees y = Check.give(new PatternTrees(), B + "t");
        y.feed(0x743b6666, 0x3b232323, 0x23232323, 0x23232323, 0x23232323);
        check.due("end(5)", y.end(5), B.length() + 6);
        check.due("text() over both calls", y.text(), 2);
    }

    /** "and is empty then": with a SET, with a FAULT of the form and of meaning. */
    private static void textEmptiesTheTape(Check check) {
        String[] texts = {B + "tt;", B + "tt", B + "zz;", "", " ", "#"};
        int[] answers = {1, -2, -3, -2, -2, -2};
        for (int i = 0; i < texts.length; i++) {
            PatternTrees x = Check.give(new PatternTrees(), texts[i]);
            check.due("text() of " + texts[i], x.text(), answers[i]);
            check.due("end(20) behind it", x.end(20), -1);
            check.due("text() once more", x.text(), -2);
            check.due("place() of an empty tape", x.place(), 0);
            check.due("feed() behind it", x.feed(0, 0, 0, 0, 0), 20);
        }
    }

    /** "in place of the one before"; "(the SET before stays)" */
    private static void textKeepsTheSet(Check check) {
        String[] faulty = {"", "data", B, B + "tt", B + "tt;#", B + "zz;", "data B=tt|tt;match B;tt;", "data I=tt;match I;1;",
            B + "ff;ff;zz;", "data S=zz;match S;sa;", B + "tt ff;"};
        PatternTrees x = check.withSet();
        for (String text : faulty) {
            x = check.withSet();
            String before = Check.state(x);
            check.due("text() of " + text, Check.give(x, text).text() < 0 ? 1 : 0, 1);
            check.due("what stays behind " + text, Check.state(x), before);
            check.runs(x, "sa ?", 0, "-5 1");
            check.runs(x, "(sb ?)sa", 0, "-6 1 5");
        }
        check.due("text() of another SET", Check.give(x, B + "tt;_;tt;").text(), 3);
        check.due("what it tells", Check.state(x), "1 2 1 3 3, 0:, 0, , 001");
        check.runs(x, "sa ?", 0, "-3");
        check.runs(x, "ff", 0, "1 1");
        check.due("text() of a third one", Check.give(x, "new B=mk I;data C=ca I I|cb;match B C;(mk 3)_ when;_(ca 1 2);").text(), 2);
        check.due("what that tells", Check.state(x), "2 3 2 2 7, 0:, 1, _ (ca 1 0), 00");
    }

    /** "Where THE FAULT of the latest text() lies; NONE." */
    private static void placeOfTheLatest(Check check) {
        PatternTrees x = new PatternTrees();
        check.due("before any text()", x.place(), -1);
        Check.give(x, B + "tt;");
        check.due("before text()", x.place(), -1);
        x.text();
        check.due("without a FAULT", x.place(), -1);
        Check.give(x, B + "tt;ff zz;").text();
        check.due("of meaning", x.place(), B.length() + 6);
        check.runs(x, "#", 0, "-2");
        check.runs(x, "zz", 0, "-3");
        check.runs(x, "tt", 0, "0 1");
        Check.give(x, "#");
        x.end(3);
        x.told(0);
        x.misses();
        x.example(0);
        x.never(0);
        check.due("no other call changes it", x.place(), B.length() + 6);
        check.due("nor does it itself", x.place(), B.length() + 6);
        x.text();
        check.due("of the form", x.place(), 0);
        Check.give(x, B + "tt").text();
        check.due("at the end", x.place(), B.length() + 2);
        Check.give(x, B + "tt;").text();
        check.due("without a FAULT again", x.place(), -1);
    }

    /** "what = 0 TYPES told, 1 CONS, 2 COLUMNS, 3 ROWS, 4 pats. NONE: no SET .., another what." */
    private static void told(Check check) {
        int[] others = {-2, -1, 5, 6, 256, Integer.MAX_VALUE, Integer.MIN_VALUE};
        PatternTrees x = new PatternTrees();
        for (int what = -2; what <= 6; what++) {
            check.due("told(" + what + ") without a SET", x.told(what), -1);
        }
        Check.give(x, "data A=aa|ab A;new B=ba A;data C=ca|cb|cc;match A B I;_ _ 1;(ab x@aa)(ba ~y)!2 when;").text();
        int[] due = {3, 6, 3, 2, 11};
        for (int what = 0; what < 5; what++) {
            check.due("told(" + what + ")", x.told(what), due[what]);
        }
        for (int what : others) {
            check.due("told(" + what + ")", x.told(what), -1);
        }
    }

    /** What one object holds is of no matter to another. */
    private static void objectsApart(Check check) {
        PatternTrees x = check.withSet();
        String before = Check.state(x);
        PatternTrees y = new PatternTrees();
        check.due("a new object beside one", Check.state(y), EMPTY);
        Check.give(y, B + "ff;").text();
        check.runs(y, "tt", 0, "-5 1");
        Check.give(y, "#");
        check.due("the one beside it", Check.state(x), before);
        check.due("its tape", x.feed(0, 0, 0, 0, 0), 20);
    }
}
