import java.util.ArrayList;
import java.util.List;

/** 1 TEXTS, FAULTS: at each place of the form each token, the end of the text, and which FAULT is the first. */
public final class FaultEdgesTest {
    private static final String[] TOKENS = {"data", "new", "match", "when", "A", "I", "Z", "aa", "zzzzzzzz", "x", "0", "999",
        "=", "|", ";", "(", ")", "_", "~", "!", "@", "?", "#", "\0", "\u00ff", "\t", "abcdefghi", "Ab", "aB", "AB", "1000", "01", "00"};
    private static final String TYPES = " A I Z ";
    private static final String WORDS = " aa zzzzzzzz ";
    private static final String PATS = " _ x ~ ! 0 999 ( " + WORDS;
    private static final String VALUES = " ? 0 999 ( " + WORDS;
    private static final String NOTHING = " ";
    private static final String A = "data A=aa A|ab;";
    private static final String SIX = A + "new B=bb I;data C=cc;data D=dd;data E=ee;data F=ff;";

    public static void main(String[] args) {
        Check check = new Check();
        tokensOfTypes(check);
        tokensOfColumns(check);
        tokensOfRows(check);
        tokensOfPats(check);
        tokensAtLimits(check);
        tokensOfValues(check);
        endOfTexts(check);
        formAheadOfMeaning(check);
        firstOfMeaning(check);
        check.end();
    }

    /** What may stand behind a text that is not whole; ;; is one that ends a ROW, so that the form is whole. */
    private static void stands(Check check, String before, String may) {
        for (String token : TOKENS) {
            String text = before + " " + token;
            if (token.equals(";") && may.contains(" ;; ")) {
                int answer = Check.give(new PatternTrees(), text).text();
                check.due("text() of " + text + ", no FAULT of the form", answer == -2 ? 1 : 0, 0);
            } else if (may.contains(" " + token + " ")) {
                check.faulty(text, -2, text.length());
                check.faulty(text + "\n ", -2, text.length() + 2);
            } else {
                check.faulty(text, -2, before.length() + 1);
                check.faulty(before + "\n" + token + " #", -2, before.length() + 1);
            }
        }
    }

    private static void tokensOfTypes(Check check) {
        stands(check, "", " data new ");
        stands(check, "data", TYPES);
        stands(check, "new", TYPES);
        stands(check, "data A", " = ");
        stands(check, "new A", " = ");
        stands(check, "data A=", WORDS);
        stands(check, "new A=", WORDS);
        stands(check, "data A=aa", TYPES + " | ; ");
        stands(check, "data A=aa A", TYPES + " | ; ");
        stands(check, "data A=aa A|", WORDS);
        stands(check, "data A=aa A|ab", TYPES + " | ; ");
        stands(check, "new A=aa", TYPES);
        stands(check, "new A=aa A", " ; ");
        stands(check, A, " data new match ");
        stands(check, "new A=aa A;", " data new match ");
        stands(check, SIX, " data new match ");
    }

    private static void tokensOfColumns(Check check) {
        stands(check, A + "match", TYPES);
        stands(check, A + "match A", TYPES + " ; ");
        stands(check, A + "match A I A", TYPES + " ; ");
        stands(check, A + "match A I A I", " ; ");
    }

    private static void tokensOfRows(Check check) {
        stands(check, A + "match A;", PATS);
        stands(check, A + "match A;_", PATS + " when ;; ");
        stands(check, A + "match A;_ when", " ;; ");
        stands(check, A + "match A;ab;", PATS);
        stands(check, A + "match A;ab when;", PATS);
        stands(check, A + "match A;(aa _)", PATS + " when ;; ");
        stands(check, A + "match A;5", PATS + " when ;; ");
        stands(check, A + "match A;ab", PATS + " when ;; ");
        check.good(A + "match A;ab;", 1);
        check.good(A + "match A;ab when;", 1);
        check.good(A + "match A;(aa _);", 1);
        check.good(A + "match A;x@_;x;", 2);
        check.faultyAt(A + "match A;`5;", -3);
    }

    private static void tokensOfPats(Check check) {
        stands(check, A + "match A;x", PATS + " @ when ;; ");
        stands(check, A + "match A;x@", PATS);
        stands(check, A + "match A;x@y", PATS + " @ when ;; ");
        stands(check, A + "match A;x@_", PATS + " when ;; ");
        stands(check, A + "match A;~", PATS);
        stands(check, A + "match A;!", PATS);
        stands(check, A + "match A;~_", PATS + " when ;; ");
        stands(check, A + "match A;!y", PATS + " @ when ;; ");
        stands(check, A + "match A;(", WORDS);
        stands(check, A + "match A;(aa", PATS);
        stands(check, A + "match A;(aa _", PATS + " ) ");
        stands(check, A + "match A;(aa x", PATS + " @ ) ");
        stands(check, A + "match A;(aa ab", PATS + " ) ");
        stands(check, A + "match A;(aa(aa 5)", PATS + " ) ");
        stands(check, A + "match A;(aa(aa(aa", PATS);
    }

    private static void tokensAtLimits(Check check) {
        String sixCons = "data G=ga|gb|gc|gd|ge|gf";
        stands(check, sixCons, TYPES + " | ; ");
        stands(check, sixCons + " A A A", " | ; ");
        stands(check, sixCons + "|", NOTHING);
        stands(check, "data A=aa A A", TYPES + " | ; ");
        stands(check, "data A=aa A A A", " | ; ");
        stands(check, "data A=aa A A A|", WORDS);
        stands(check, SIX + "data", NOTHING);
        stands(check, SIX + "new", NOTHING);
        stands(check, A + "match A;" + "ab;".repeat(11), PATS);
        stands(check, A + "match A;" + "ab;".repeat(12), NOTHING);
        // Eight ROWS of 7 pats, and 3 more.
        String many = A + "match A I A I;" + "~_ 1 !(aa x) 2;".repeat(8) + "_ _ _";
        stands(check, many, PATS + " when ;; ");
        stands(check, many + " _", " when ;; ");
        stands(check, many + " x", " @ when ;; ");
        stands(check, many + " x@", NOTHING);
        stands(check, many + " ~", NOTHING);
        stands(check, many + " !", NOTHING);
        stands(check, many + " (", WORDS);
        stands(check, many + " (aa", NOTHING);
        stands(check, many + " 2;", NOTHING);
        check.due("told(4)", check.good(many + " 2;", 9).told(4), 60);
        String five = A + "match A;(aa(aa(aa(aa(aa";
        stands(check, five, PATS);
        stands(check, five + " _", PATS + " ) ");
        stands(check, five + " x", PATS + " @ ) ");
        stands(check, five + " x@", NOTHING);
        stands(check, five + " ~", NOTHING);
        stands(check, five + " !", NOTHING);
        stands(check, five + " (", WORDS);
        stands(check, five + " (aa", NOTHING);
    }

    /** What may stand behind values that are not whole, or are; a FAULT of the form is told by -2 alone. */
    private static void standsInValues(Check check, String before, String may, String close) {
        PatternTrees x = check.set(A + "match A;_;");
        for (String token : TOKENS) {
            boolean can = may.contains(" " + token + " ");
            String rest = token.equals("(") ? "aa ?)" : "";
            String behind = token.equals(")") ? close.substring(Math.min(1, close.length())) : close;
            int answer = Check.give(x, before + " " + token + rest + behind).run(0);
            check.due("run(0) of " + before + " " + token + rest + behind, answer == -2 ? -2 : 0, can ? 0 : -2);
            check.due("looks()", x.looks(), 0);
            check.due("the tape is empty", x.feed(0, 0, 0, 0, 0), 20);
            x.end(0);
        }
    }

    private static void tokensOfValues(Check check) {
        standsInValues(check, "", VALUES, "");
        standsInValues(check, "ab", VALUES, "");
        standsInValues(check, "?", VALUES, "");
        standsInValues(check, "7", VALUES, "");
        standsInValues(check, "(aa ab)", VALUES, "");
        standsInValues(check, "(", WORDS, " ?)");
        standsInValues(check, "(aa", VALUES, ")");
        standsInValues(check, "(aa ab", VALUES + " ) ", ")");
        standsInValues(check, "(aa(aa ab)", VALUES + " ) ", ")");
        standsInValues(check, "(aa(aa(aa(aa(aa", VALUES.replace("(", ""), ")))))");
        standsInValues(check, "(aa(aa(aa(aa(aa(aa", NOTHING, "))))))");
        standsInValues(check, "?".repeat(59), VALUES.replace("(", ""), "");
        standsInValues(check, "?".repeat(60), NOTHING, "");
    }

    /** "at the end the length", where no token is left: also behind blanks, and in the last byte of the tape. */
    private static void endOfTexts(Check check) {
        String[] parts = {"data", " A", "=", "aa", " A", " I", " Z", "|", "ab", ";", "new", " Z", "=", "zz", " I", ";", "match", " A", " I",
            ";", "(", "aa", " x", "@", "ab", " 5", " _", ")", "~", "y", " when", ";"};
        String text = "";
        for (String part : parts) {
            check.faulty(text, -2, text.length());
            check.faulty(text + " ", -2, text.length() + 1);
            check.faulty(" \n" + text + "\n", -2, text.length() + 3);
            check.faulty(text + " ".repeat(1200 - text.length()), -2, 1200);
            check.faulty(" ".repeat(1200 - text.length()) + text, -2, 1200);
            text += part;
        }
        check.good(text, 1);
        check.good(text + " ".repeat(1200 - text.length()), 1);
        check.good(" ".repeat(1200 - text.length()) + text, 1);
    }

    /** "first the form": the last token is one that cannot stand there, and all FAULTS of meaning are ahead of it. */
    private static void formAheadOfMeaning(Check check) {
        String[] wrong = {"data I=aa;match I;_;", "data A=aa;data A=ab;match A;_;", "data A=aa|aa;match A;_;", "data A=aa Q;match A;_;",
            "data A=aa;match Q;_;", "data A=aa;match A;zz;", "data A=aa;data B=bb;match A;bb;", "data A=aa;match A;5;",
            "data A=aa I;match A;aa;", "data A=aa I I;match A;(aa 1);", "data A=aa I;match A;(aa 1 2);", "data A=aa;match A A;_;",
            "data A=aa;match A;_ _;"};
        for (String text : wrong) {
            PatternTrees x = Check.give(new PatternTrees(), text);
            check.due("text() of " + text, x.text(), -3);
            check.faulty(text + "_", -2, text.length() + 1);
            check.faulty(text + " _ ", -2, text.length() + 3);
            check.faulty(text + " ;", -2, text.length() + 1);
            check.faulty(text + "_ #", -2, text.length() + 2);
            check.faulty(text + "when", -2, text.length());
        }
    }

    /** Parts of a text, good and wrong, where ` stands ahead of what is at fault. */
    private static final String[][] PARTS = {
        {"data A=aa A|ab;data ", "C", "`I"}, {"=", "ca", "`aa"}, {" A ", "I", "`Q"}, {"|", "cb", "`ab"}, {";new ", "D", "`A"},
        {"=", "da", "`ca"}, {" ", "A", "`R"}, {"; data L=nn|co I L;match A ", "L", "`S"}, {";", "ab", "`zz"}, {" ", "nn", "`ab"},
        {" ", "", "`_ "}, {"when;(", "aa", "`yy"}, {" ", "ab", "`7"}, {" ", ")_", "`_ )_"}, {";", "x@(aa _)", "x@`aa"},
        {"(co ", "1", "`nn"}, {" ", "_)", "`)"}, {";~!", "ab", "`cb"}, {" ", "y", "`"}, {";_(co 1 ", "(co 2 nn)", "`co"},
        {")", "when", "`_ when"}, {";_ ", "_ ", "`"}};

    /** "Then meaning, the first in the text": each pair of wrong parts, and all from one on. */
    private static void firstOfMeaning(Check check) {
        check.good(textOf(new ArrayList<>()), 6);
        for (int first = 0; first < PARTS.length; first++) {
            List<Integer> all = new ArrayList<>();
            for (int second = first; second < PARTS.length; second++) {
                firstOf(check, List.of(first, second));
                all.add(second);
            }
            firstOf(check, all);
        }
    }

    private static void firstOf(Check check, List<Integer> wrong) {
        String text = textOf(wrong);
        check.faulty(text.replace("`", ""), -3, text.indexOf('`'));
    }

    private static String textOf(List<Integer> wrong) {
        StringBuilder text = new StringBuilder();
        for (int i = 0; i < PARTS.length; i++) {
            text.append(PARTS[i][0]).append(PARTS[i][wrong.contains(i) ? 2 : 1]);
        }
        return text.append("when;").toString();
    }
}
