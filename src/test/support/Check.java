import java.nio.charset.StandardCharsets;

/** What the project's tests share: texts to the tape, answers against what is due, a closing line. */
final class Check {
    private int wrong = 0;
    private int asked = 0;

    void due(String what, long got, long want) {
        asked++;
        if (got != want) {
            wrong++;
            System.out.println(what + " answered " + got + ", due is " + want);
        }
    }

    void due(String what, String got, String want) {
        asked++;
        if (!got.equals(want)) {
            wrong++;
            System.out.println(what + " answered \"" + got + "\", due is \"" + want + "\"");
        }
    }

    /** A new object with this SET, which must be without FAULT. */
    PatternTrees set(String text) {
        PatternTrees x = new PatternTrees();
        int answer = give(x, text).text();
        if (answer < 0) {
            due("text() of " + text + " (place " + x.place() + ")", answer, 1);
        }
        return x;
    }

    /** A row of values: what run answers, and then all PLACES that were LOOKED AT. */
    void runs(PatternTrees x, String values, int guards, String want) {
        int answer = give(x, values).run(guards);
        due("run(" + guards + ") of " + values, answer + looks(x), want);
    }

    /** A text with a FAULT: what text() answers, its place, and that all else stays but for the tape. */
    void faulty(String text, int answer, int place) {
        PatternTrees x = give(new PatternTrees(), text);
        due("text() of " + text, x.text(), answer);
        due("place() of " + text, x.place(), place);
        due("what a new object tells behind " + text, state(x), "-1 -1 -1 -1 -1, -1:, -1, , ");
        due("feed() behind " + text, x.feed(0, 0, 0, 0, 0), 20);
        PatternTrees y = withSet();
        String before = state(y);
        due("text() behind a SET of " + text, give(y, text).text(), answer);
        due("place() behind a SET of " + text, y.place(), place);
        due("what the SET before tells behind " + text, state(y), before);
        due("feed() behind a SET and " + text, y.feed(0, 0, 0, 0, 0), 20);
    }

    /** A text without a FAULT: how many ROWS, no place, no looks yet, and an empty tape. */
    PatternTrees good(String text, int rows) {
        good(new PatternTrees(), text, rows);
        PatternTrees y = withSet();
        good(y, text, rows);
        return y;
    }

    private void good(PatternTrees x, String text, int rows) {
        due("text() of " + text, give(x, text).text(), rows);
        due("place() of " + text, x.place(), -1);
        due("told(3) of " + text, x.told(3), rows);
        due("looks() of " + text, x.looks(), 0);
        due("feed() behind " + text, x.feed(0, 0, 0, 0, 0), 20);
        x.end(0);
    }

    /** An object with a SET of two ROWS, one of them NEVER taken, and a run that LOOKED AT two PLACES. */
    PatternTrees withSet() {
        PatternTrees x = set("data S=sa|sb S;match S S;(sb sa)_;(sb sa)sa when;");
        runs(x, "(sb ?)sa", 0, "-6 1 5");
        due("what a SET tells", state(x), "1 2 2 2 6, 2: 1 5, 1, sa _, 01");
        return x;
    }

    /** What all calls tell that change nothing, but for place(). */
    static String state(PatternTrees x) {
        StringBuilder line = new StringBuilder();
        for (int what = 0; what < 5; what++) {
            line.append(what == 0 ? "" : " ").append(x.told(what));
        }
        line.append(", ").append(x.looks()).append(':').append(looks(x));
        return line + ", " + x.misses() + ", " + example(x) + ", " + nevers(x);
    }

    /** The same, where the FAULT lies at the first ` of the text, which is left out. */
    void faultyAt(String marked, int answer) {
        int place = marked.indexOf('`');
        faulty(marked.substring(0, place) + marked.substring(place + 1), answer, place);
    }

    static PatternTrees give(PatternTrees x, String text) {
        return give(x, text.getBytes(StandardCharsets.ISO_8859_1));
    }

    /** What end() cuts off goes on as the text does, so that it shows if it is read all the same. */
    static PatternTrees give(PatternTrees x, byte[] bytes) {
        for (int from = 0; from < bytes.length; from += 20) {
            int[] five = new int[5];
            for (int i = 0; i < 20; i++) {
                int b = bytes[Math.min(from + i, bytes.length - 1)] & 255;
                five[i / 4] = five[i / 4] << 8 | b;
            }
            x.feed(five[0], five[1], five[2], five[3], five[4]);
            if (bytes.length - from < 20) {
                x.end(bytes.length - from);
            }
        }
        return x;
    }

    static String looks(PatternTrees x) {
        StringBuilder line = new StringBuilder();
        int many = x.looks();
        for (int i = 0; i < many; i++) {
            line.append(' ').append(x.looked(i));
        }
        return line.toString();
    }

    static String example(PatternTrees x) {
        StringBuilder line = new StringBuilder();
        int b = x.example(0);
        while (b != PatternTrees.NONE) {
            line.append((char) b);
            b = x.example(line.length());
        }
        return line.toString();
    }

    static String nevers(PatternTrees x) {
        StringBuilder line = new StringBuilder();
        int rows = x.told(3);
        for (int row = 0; row < rows; row++) {
            line.append(x.never(row));
        }
        return line.toString();
    }

    static String times(String part, int n) {
        return part.repeat(n);
    }

    void end() {
        System.out.println(asked + " answers, " + wrong + " not as due");
        if (wrong != 0 || asked == 0) {
            System.exit(1);
        }
    }
}
