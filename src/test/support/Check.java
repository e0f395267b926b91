import java.nio.charset.StandardCharsets;

/** What the project's tests share: texts to the tape, answers against what is due, a closing line. */
final class Check {
    private int wrong = 0;
    private int asked = 0;

    void due(String what, long got, long want) {
        asked++;
        if (got != want) {
            wrong++;
            System.out.println(what + " answered " + got + ", due is " + want);
        }
    }

    void due(String what, String got, String want) {
        asked++;
        if (!got.equals(want)) {
            wrong++;
            System.out.println(what + " answered \"" + got + "\", due is \"" + want + "\"");
        }
    }

    /** A new object with this SET, which must be without FAULT. */
    PatternTrees set(String text) {
        PatternTrees x = new PatternTrees();
        int answer = give(x, text).text();
        if (answer < 0) {
            due("text() of " + text + " (place " + x.place() + ")", answer, 1);
        }
        return x;
    }

    /** A row of values: what run answers, and then all PLACES that were LOOKED AT. */
    void runs(PatternTrees x, String values, int guards, String want) {
        int answer = give(x, values).run(guards);
        due("run(" + guards + ") of " + values, answer + looks(x), want);
    }

    /** A text with a FAULT, by a new object: what text() answers, and its place. */
    void faulty(String text, int answer, int place) {
        PatternTrees x = give(new PatternTrees(), text);
        due("text() of " + text, x.text(), answer);
        due("place() of " + text, x.place(), place);
    }

    /** The same, where the FAULT lies at the first ` of the text, which is left out. */
    void faultyAt(String marked, int answer) {
        int place = marked.indexOf('`');
        faulty(marked.substring(0, place) + marked.substring(place + 1), answer, place);
    }

    static PatternTrees give(PatternTrees x, String text) {
        return give(x, text.getBytes(StandardCharsets.ISO_8859_1));
    }

    /** What end() cuts off goes on as the text does, so that it shows if it is read all the same. */
    static PatternTrees give(PatternTrees x, byte[] bytes) {
        for (int from = 0; from < bytes.length; from += 20) {
            int[] five = new int[5];
            for (int i = 0; i < 20; i++) {
                int b = bytes[Math.min(from + i, bytes.length - 1)] & 255;
                five[i / 4] = five[i / 4] << 8 | b;
            }
            x.feed(five[0], five[1], five[2], five[3], five[4]);
            if (bytes.length - from < 20) {
                x.end(bytes.length - from);
            }
        }
        return x;
    }

    static String looks(PatternTrees x) {
        StringBuilder line = new StringBuilder();
        for (int i = 0; i < x.looks(); i++) {
            line.append(' ').append(x.looked(i));
        }
        return line.toString();
    }

    static String example(PatternTrees x) {
        StringBuilder line = new StringBuilder();
        for (int i = 0; x.example(i) != PatternTrees.NONE; i++) {
            line.append((char) x.example(i));
        }
        return line.toString();
    }

    static String nevers(PatternTrees x) {
        StringBuilder line = new StringBuilder();
        for (int row = 0; row < x.told(3); row++) {
            line.append(x.never(row));
        }
        return line.toString();
    }

    static String times(String part, int n) {
        return part.repeat(n);
    }

    void end() {
        System.out.println(asked + " answers, " + wrong + " not as due");
        if (wrong != 0 || asked == 0) {
            System.exit(1);
        }
    }
}
