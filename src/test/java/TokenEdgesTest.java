/** 1 TEXTS, TOKENS: for each sentence the last input inside its boundary and the first one outside. */
public final class TokenEdgesTest {
    private static final String B = "data B=tt|ff;";
    private static final String SIGNS = "=|;()_~!@?";
    private static final String BEGIN_PATS = "(_~!";

    public static void main(String[] args) {
        Check check = new Check();
        eachByteOfTexts(check);
        eachByteOfValues(check);
        types(check);
        words(check);
        letters(check);
        numbers(check);
        rowsOfLettersAndDigits(check);
        blanks(check);
        check.end();
    }

    private static boolean isIn(int b, int least, int most) {
        return b >= least && b <= most;
    }

    /** "SIGNS = | ; ( ) _ ~ ! @ ?", "blanks (32, 10)", "another byte": each of the 256, where a ROW may begin. */
    private static void eachByteOfTexts(Check check) {
        String text = B + "match B;_;";
        for (int b = 0; b < 256; b++) {
            char c = (char) b;
            boolean begins = BEGIN_PATS.indexOf(c) >= 0 || isIn(b, 'a', 'z') || isIn(b, '0', '9');
            if (b == 32 || b == 10) {
                check.good(text + c, 1);
                check.good(c + text, 1);
            } else {
                // What begins a pat can stand there, and then the text ends too early.
                check.faulty(text + c, -2, begins ? text.length() + 1 : text.length());
                check.faulty(c + text, -2, 0);
            }
        }
        for (char c : SIGNS.toCharArray()) {
            check.faulty(B + c, -2, B.length());
        }
    }

    /** The same bytes beside a value: one more is too many, and a small letter makes its CON another one. */
    private static void eachByteOfValues(Check check) {
        PatternTrees x = check.set(B + "match B;!_;");
        for (int b = 0; b < 256; b++) {
            x = b % 32 == 0 ? check.set(B + "match B;!_;") : x;
            boolean blank = b == 32 || b == 10;
            boolean formed = b == '?' || isIn(b, '0', '9') || isIn(b, 'a', 'z');
            check.runs(x, "tt" + (char) b, 0, blank ? "0 1" : formed ? "-3" : "-2");
            check.runs(x, (char) b + "tt", 0, blank ? "0 1" : formed ? "-3" : "-2");
        }
    }

    /** "TYPES, one great letter A .. Z alone" */
    private static void types(Check check) {
        for (char c = 'A'; c <= 'Z'; c++) {
            if (c != 'I') {
                check.good("data " + c + "=aa " + c + "|ab;match " + c + ";(aa x);ab;", 2);
            }
        }
        check.faultyAt("data `@=aa;match A;aa;", -2);
        check.faultyAt("data `[=aa;match A;aa;", -2);
        check.faultyAt("data `AA=aa;match A;aa;", -2);
        check.faultyAt("data `a=aa;match A;aa;", -2);
        check.faultyAt("data A=aa `AA;match A;aa;", -2);
        check.faultyAt("data A=aa;match `AA;aa;", -2);
        check.faultyAt("data A=aa;match A `Aa;aa;", -2);
        check.good("data A=aa A A;match A A;_ _;", 1);
    }

    /** "WORDS, rows of 2 .. 8 small letters"; "a word too long" */
    private static void words(Check check) {
        for (String word : new String[] {"aa", "zz", "az", "abc", "abcd", "abcde", "abcdef", "abcdefg", "abcdefgh", "zzzzzzzz"}) {
            PatternTrees x = check.good("data A=" + word + "|other A;match A;" + word + ";(other " + word + ");", 2);
            check.runs(x, word, 0, "0 1");
            check.runs(x, "(other " + word + ")", 0, "1 1 5");
            check.runs(x, "(other other)", 0, "-3");
        }
        check.faultyAt("data A=`a;match A;_;", -2);
        check.faultyAt("data A=`abcdefghi;match A;_;", -2);
        check.faultyAt("data A=aa|`abcdefghi;match A;_;", -2);
        check.faultyAt("`abcdefghi", -2);
        check.faultyAt("data A=aa;match A;`aaaaaaaaa;", -2);
        check.faultyAt("data A=aa A;match A;(`aaaaaaaaa _);", -2);
        check.faultyAt("data A=aa A;match A;(`a _);", -2);
        check.faultyAt("data A=aa;match A;aa `whenwhenw;", -2);
        check.faultyAt("data A=`{a;match A;_;", -2);
        check.faultyAt("data A=aa`{;match A;_;", -2);
        // A word of eight letters differs from all others of its beginning.
        PatternTrees x = check.good("data A=abcdefgh|abcdefg|abcdefgi|bbcdefgh;match A;abcdefgh;abcdefg;abcdefgi;bbcdefgh;", 4);
        check.runs(x, "abcdefgh", 0, "0 1");
        check.runs(x, "abcdefg", 0, "1 1");
        check.runs(x, "abcdefgi", 0, "2 1");
        check.runs(x, "bbcdefgh", 0, "3 1");
        check.runs(x, "abcdefghi", 0, "-2");
        check.runs(x, "abcdef", 0, "-3");
        check.runs(x, "a", 0, "-2");
    }

    /** "LETTERS, a small letter alone" */
    private static void letters(Check check) {
        for (char c = 'a'; c <= 'z'; c++) {
            check.good(B + "match B B;" + c + " " + c + "@" + c + ";", 1);
        }
        check.faultyAt(B + "match B;`X;", -2);
        check.faultyAt(B + "match B;`X@_;", -2);
        check.faultyAt(B + "match B;tt`@_;", -2);
        check.faultyAt(B + "match B;`Xx@_;", -2);
        check.faultyAt(B + "match B;`xX@_;", -2);
        // Two letters are a WORD, and a CON that is not told.
        check.faultyAt(B + "match B;`xy;", -3);
    }

    /** "NUMBERS 0 .. 999, digits not beginning with 0 but for 0" */
    private static void numbers(Check check) {
        PatternTrees x = check.good(B + "match I;0;9;10;99;100;999;", 6);
        String[] inside = {"0", "9", "10", "99", "100", "999"};
        for (int i = 0; i < inside.length; i++) {
            check.runs(x, inside[i], 0, i + " 1");
        }
        for (String number : new String[] {"1", "11", "98", "101", "998"}) {
            check.runs(x, number, 0, "-5 1");
        }
        // 4294967296 and 4294967306 are 0 and 10 once more around all ints.
        String[] outside = {"00", "000", "0000", "01", "09", "010", "099", "0999", "1000", "1001", "9999", "10000", "2147483647",
            "2147483648", "4294967296", "4294967306", "18446744073709551616", "9".repeat(60)};
        for (String number : outside) {
            check.faultyAt(B + "match I;`" + number + ";", -2);
            check.faultyAt(B + "match I I;1 x@`" + number + ";", -2);
            check.runs(x, number, 0, "-2");
            check.runs(x, "999 " + number, 0, "-2");
        }
        check.faultyAt(B + "match I;`/;", -2);
        check.faultyAt(B + "match I;`:;", -2);
        check.faultyAt(B + "match I;`-1;", -2);
        check.faultyAt(B + "match I;`+1;", -2);
        check.faultyAt(B + "match I;1`.0;", -2);
    }

    /** "A row of letters (small and great) is one token, a row of digits, too" */
    private static void rowsOfLettersAndDigits(Check check) {
        check.faultyAt("`dataB=tt;match B;tt;", -2);
        check.faultyAt("`datanew B=tt;match B;tt;", -2);
        check.faultyAt(B + "`matchB;tt;", -2);
        check.faultyAt(B + "match B;`tT;", -2);
        check.faultyAt(B + "match B;`Tt;", -2);
        check.faultyAt(B + "match B;`ttff;", -3);
        check.faultyAt(B + "match B;`ttwhen;", -3);
        check.faultyAt(B + "match B B;`xx;", -3);
        check.faultyAt(B + "match I I;12`;", -3);
        check.good(B + "match I I;1 2;", 1);
        check.faultyAt(B + "match I I;`1234;", -2);
        check.good(B + "match I I;123 4;", 1);
        // Letters and digits are rows of their own.
        check.good(B + "match I B I B;1tt2x;", 1);
        check.good(B + "match I;999when;", 1);
        check.good(B + "match B I;x1;", 1);
        check.faultyAt(B + "match B I;x`01;", -2);
    }

    /** "blanks (32, 10) between where needed" */
    private static void blanks(Check check) {
        check.good("data B=tt|ff;match B;tt;", 1);
        check.good("data\nB\n=\ntt\n|\nff\n;\nmatch\nB\n;\ntt\n;\n", 1);
        check.good("  data  B  =  tt  |  ff  ;  match  B  ;  tt  ;  ", 1);
        check.good("\n \ndata \n B=tt|ff;match \n B;tt \nwhen \n; \n", 1);
        check.good("data L=nn|co I L;match L;(co 1(co 2 nn));(co~_!_);(co x@3 y@nn)when;", 3);
        check.good("data L=nn|co I L;match L; ( co 1 ( co 2 nn ) ) ; ( co ~ _ ! _ ) ; ( co x @ 3 y @ nn ) when ; ", 3);
        check.faultyAt(B + "match B;t `t;", -3);
        check.faultyAt("`da ta B=tt;match B;tt;", -2);
        for (int b : new int[] {0, 9, 11, 12, 13, 31, 33, 160}) {
            if (b != 33) {
                check.faultyAt(B + "match B;tt`" + (char) b + ";", -2);
            }
            check.faultyAt("`" + (char) b + B + "match B;tt;", -2);
        }
        PatternTrees x = check.set("data L=nn|co I L;match L L;(co 1 _)!_;");
        check.runs(x, "(co 1 nn)nn", 0, "0 1 5 2");
        check.runs(x, "\n( co\n1 nn )\nnn ", 0, "0 1 5 2");
        check.runs(x, "(co 1nn)nn", 0, "0 1 5 2");
        check.runs(x, "(co1nn)nn", 0, "0 1 5 2");
        check.runs(x, "nnnn", 0, "-3");
        check.runs(x, "nn\tnn", 0, "-2");
        check.runs(x, "nn\rnn", 0, "-2");
    }
}
