import java.util.Random;

/** Any calls with any arguments, on any bytes: each ends with an answer that its promise allows. */
public final class AnyCallsTest {
    private static final String[] PARTS = {"data ", "new ", "match ", " when", ";", ";", "=", "|", "(", ")", "_", "~", "!",
        "@", "?", "A", "B", "I", " ", "\n", "tt", "ff", "co ", "nn", "x", "y", "0", "7 ", "999", "1000", "abcdefghi", ".",
        "\0", "\u00ff"};
    private static final String[] TEXTS = {
        "data B=tt|ff;data L=nn|co I L;match L B;(co 1 x) tt;_ !ff when;~nn _;",
        "new W=mk L;data L=nn|co I L;match W I;(mk(co 1 nn)) 5;a@(mk b) c;",
        "data T=le|no T T T;match T T;(no le(no le _ le)_) le;_(no x y@le !z);",
        "data A=aa|bb|cc|dd|ee|ff;match A A A I;aa _ _ 1;_ bb _ 2;_ _ cc 3;_ _ _ _ when;dd ee ff 4;"};
    private static final String[] VALUES = {"(co 1 nn) tt", "? ?", "nn ff", "(mk ?) 5", "(mk(co 1 nn)) ?",
        "le (no le ? le)", "aa bb cc 3", "dd ee ff 4", "nn"};

    private final Random random;
    private final Check check;
    private PatternTrees x = new PatternTrees();
    private int length = 0;
    private int calls = 0;

    private AnyCallsTest(long seed, Check check) {
        random = new Random(seed);
        this.check = check;
    }

    public static void main(String[] args) {
        int runs = args.length > 0 ? Integer.parseInt(args[0]) : 4500;
        Check check = new Check();
        for (int seed = 0; seed < runs; seed++) {
            AnyCallsTest test = new AnyCallsTest(seed, check);
            for (int i = 0; i < 40; i++) {
                test.step();
            }
        }
        check.end();
    }

    private void step() {
        int what = random.nextInt(10);
        if (what < 3) {
            giveText(mixed(TEXTS[random.nextInt(TEXTS.length)], random.nextInt(4)));
            readText();
        } else if (what < 6) {
            giveText(mixed(VALUES[random.nextInt(VALUES.length)], random.nextInt(2)));
            runValues();
        } else if (what == 6) {
            giveText(mixed("", random.nextInt(30)));
            if (random.nextBoolean()) {
                readText();
            } else {
                runValues();
            }
        } else {
            anyCall();
        }
    }

    /** A text with some of its parts changed. */
    private String mixed(String text, int changes) {
        StringBuilder line = new StringBuilder(text);
        for (int i = 0; i < changes; i++) {
            int at = random.nextInt(line.length() + 1);
            int end = Math.min(line.length(), at + random.nextInt(3));
            line.replace(at, end, PARTS[random.nextInt(PARTS.length)]);
        }
        return line.toString();
    }

    private void giveText(String text) {
        if (length + (text.length() + 19) / 20 * 20 <= 1200) {
            Check.give(x, text);
            length += text.length();
        }
    }

    private void within(String what, int got, int least, int most) {
        if (got < least || got > most) {
            check.due(what + " (allowed " + least + " .. " + most + ")", got, least);
        }
        calls++;
        if (calls % 1000 == 0) {
            check.due("calls", calls % 1000, 0);
        }
    }

    private void readText() {
        int before = x.told(3);
        int answer = x.text();
        within("text()", answer, -3, 12);
        if (answer < 0) {
            within("text(), a FAULT", answer, -3, -2);
            within("place()", x.place(), 0, length);
            within("told(3) stays", x.told(3), before, before);
        } else {
            within("place()", x.place(), -1, -1);
            within("told(3)", x.told(3), answer, answer);
            within("looks()", x.looks(), 0, 0);
        }
        length = 0;
        check.due("what is on the tape", x.end(20), -1);
    }

    private void runValues() {
        int rows = x.told(3);
        int place = x.place();
        int answer = x.run(random.nextInt());
        within("run()", answer, -6, Math.max(-1, rows - 1));
        within("run() without a SET", rows < 0 ? answer : -1, -1, -1);
        within("looks()", x.looks(), rows < 0 ? -1 : 0, rows < 0 ? -1 : 60);
        within("place() stays", x.place(), place, place);
        length = rows < 0 ? length : 0;
    }

    private void anyCall() {
        int any = random.nextBoolean() ? random.nextInt() : random.nextInt(30) - 5;
        int rows = x.told(3);
        within("told", x.told(any), -1, 60);
        within("looked", x.looked(any), -1, 5119);
        within("misses", x.misses(), rows < 0 ? -1 : 0, rows < 0 ? -1 : 1);
        within("example", x.example(any), -1, 255);
        within("never", x.never(any), any >= 0 && any < rows ? 0 : -1, any >= 0 && any < rows ? 1 : -1);
        int cut = any >= 0 && any <= 20 && length >= 20 ? length - 20 + any : -1;
        within("end", x.end(any), cut, cut);
        length = cut < 0 ? length : cut;
        int fed = length + 20 > 1200 ? -1 : length + 20;
        within("feed", x.feed(any, random.nextInt(), any, 0, -1), fed, fed);
        length = fed < 0 ? length : fed;
        if (random.nextInt(3) == 0) {
            x = new PatternTrees();
            length = 0;
        }
    }
}
