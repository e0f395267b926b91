/** 1 TEXTS, SET and pat: for each count the last input inside its boundary and the first one outside. */
public final class SetEdgesTest {
    private static final String B = "data B=tt|ff;";
    private static final String SIX = "data A=aa|ab|ac|ad|ae|af;data B=ba|bb|bc|bd|be|bf;data C=ca|cb|cc|cd|ce|cf;"
            + "data D=da|db|dc|dd|de|df;data E=ea|eb|ec|ed|ee|ef;data F=fa|fb|fc|fd|fe|ff;";

    public static void main(String[] args) {
        Check check = new Check();
        types(check);
        typesToldOnce(check);
        cons(check);
        consAreNoKeywords(check);
        typesBehindCons(check);
        columns(check);
        rows(check);
        patsOfRows(check);
        sixtyPats(check);
        sixDeep(check);
        check.end();
    }

    private static void told(Check check, PatternTrees x, String want) {
        String all = x.told(0) + " " + x.told(1) + " " + x.told(2) + " " + x.told(3) + " " + x.told(4);
        check.due("told(0) .. told(4)", all, want);
        check.due("told(5)", x.told(5), -1);
        check.due("told(-1)", x.told(-1), -1);
    }

    /** "1 .. 6 TYPES are told"; "the seventh TYPE .. (.. at itself)" */
    private static void types(Check check) {
        check.faultyAt("`match I;_;", -2);
        told(check, check.good("data A=aa;match A;_;", 1), "1 1 1 1 1");
        told(check, check.good("new A=aa I;match A;_;", 1), "1 1 1 1 1");
        String[] tellings = {"data T=ta;", "new U=ua I;", "data V=va;", "new W=wa T;", "data X=xa;", "new Y=ya I;"};
        String text = "";
        for (int many = 1; many <= 6; many++) {
            text += tellings[many - 1];
            told(check, check.good(text + "match T I;_ _;", 1), many + " " + many + " 2 1 2");
        }
        check.faultyAt(text + "data `A=aa;match T;_;", -2);
        check.faultyAt(text + "new `A=aa I;match T;_;", -2);
        // One that is told already, or that is I, is the seventh one all the same: the form comes first.
        check.faultyAt(text + "data `T=aa;match T;_;", -2);
        check.faultyAt(text + "data `I=aa;match T;_;", -2);
        check.faultyAt(text.replace("data T", "data Y") + "data `A=aa;match T;_;", -2);
        check.faultyAt(text.replace("data T", "data I") + "data `A=aa;match T;_;", -2);
    }

    /** "(not I: that is of NUMBERS), each once, anywhere ahead or behind its uses" */
    private static void typesToldOnce(Check check) {
        check.faultyAt("data `I=aa;match A;_;", -3);
        check.faultyAt("new `I=aa I;match I;_;", -3);
        check.faultyAt("data A=aa;data `I=ab;match A;_;", -3);
        check.good("data H=aa;data J=ab;match H I J;_ 1 _;", 1);
        check.faultyAt("data A=aa;data `A=ab;match A;_;", -3);
        check.faultyAt("data A=aa;new `A=ab I;match A;_;", -3);
        check.faultyAt("new A=aa I;new `A=ab I;match A;_;", -3);
        check.faultyAt("data A=aa;data B=bb;data C=cc;data D=dd;data E=ee;data `A=ab;match A;_;", -3);
        check.good("data A=aa B;data B=bb A;match A B;_ _;", 1);
        check.good("data A=aa A;match A;_;", 1);
        check.good("data A=aa E;data B=bb;data C=cc;data D=dd;new E=ee F;data F=ff;match A;(aa(ee ff));", 1);
        check.faultyAt("data A=aa `E;data B=bb;match A;_;", -3);
        check.faultyAt("data A=aa;new B=bb `E;match A;_;", -3);
    }

    /** "each told once, 1 .. 6 of a TYPE"; "CON (each at itself)" */
    private static void cons(Check check) {
        check.faultyAt("data A=`;match A;_;", -2);
        told(check, check.good("data A=aa;match A;aa;", 1), "1 1 1 1 1");
        told(check, check.good("data A=aa|ab|ac|ad|ae|af;match A;af;", 1), "1 6 1 1 1");
        check.faultyAt("data A=aa|ab|ac|ad|ae|af|`ag;match A;af;", -2);
        check.faultyAt("data A=aa|ab|ac|ad|ae|af|`aa;match A;af;", -2);
        check.faultyAt("data A=aa I|ab I|ac I|ad I|ae I|af I|`ag I;match A;_;", -2);
        PatternTrees x = check.good(SIX + "match A F;aa ff;", 1);
        told(check, x, "6 36 2 1 2");
        check.runs(x, "aa ff", 0, "0 1 2");
        check.runs(x, "af ff", 0, "-5 1");
        check.runs(x, "aa fe", 0, "-5 1 2");
        check.faultyAt(SIX.replace("|ff;", "|ff|`fg;") + "match A;aa;", -2);
        check.faultyAt(SIX.replace("|ff;", "|`aa;") + "match A;aa;", -3);
        check.faultyAt(SIX.replace("|ff;", "|`fe;") + "match A;aa;", -3);
        check.faultyAt("new A=aa I`|ab I;match A;_;", -2);
        thirtySixCons(check);
    }

    /** All CONS that there may be, each with all TYPES that it may have. */
    private static void thirtySixCons(Check check) {
        String types = SIX.replace("|", " I F A|").replace(";", " I F A;");
        PatternTrees x = check.good(types + "match F;(fa _ _ _);(fb _ _ _);(fc _ _ _);(fd _ _ _);(fe _ _ _);(ff 7 _(af 8 _ _));", 6);
        told(check, x, "6 36 1 6 27");
        check.runs(x, "(ff 7 ?(af 8 ? ?))", 0, "5 1 5 7 29");
        check.runs(x, "(ff 7 ?(ae 8 ? ?))", 0, "-5 1 5 7");
        check.runs(x, "(ff 7 ?)", 0, "-3");
        check.runs(x, "(ff ? ? ? ?)", 0, "-3");
        check.due("THE EXAMPLE", Check.example(x), "(ff 7 _ (aa _ _ _))");
        check.due("never", Check.nevers(x), "000000");
        int end = types.length() - 1;
        check.faultyAt(types.substring(0, end - 1) + "`Q;match F;_;", -3);
        check.faultyAt(types.substring(0, end) + " `A;match F;_;", -2);
        check.faultyAt(types.substring(0, end) + "|`fg;match F;_;", -2);
        PatternTrees last = check.good(SIX + "match F;ff;", 1);
        check.due("THE EXAMPLE of the last CON", Check.example(last), "fa");
        PatternTrees others = check.good(SIX + "match F I;fa _;fb _;fc _;fd _;fe _;", 5);
        check.due("THE EXAMPLE, the last CON", Check.example(others), "ff _");
        PatternTrees all = check.good(SIX + "match F I;fa _;fb _;fc _;fd _;fe _;ff 0;", 6);
        check.due("THE EXAMPLE behind the last CON", Check.example(all), "ff 1");
        check.due("never", Check.nevers(all), "000000");
    }

    /** "CONS are WORDS (but data new match when)" */
    private static void consAreNoKeywords(Check check) {
        for (String word : new String[] {"data", "new", "match", "when"}) {
            check.faultyAt("data A=`" + word + ";match A;_;", -2);
            check.faultyAt("data A=aa|`" + word + ";match A;_;", -2);
            check.faultyAt("new A=`" + word + " I;match A;_;", -2);
            check.faultyAt(B + "match B;(`" + word + " _);", -2);
            if (!word.equals("when")) {
                check.faultyAt(B + "match B;tt `" + word + ";", -2);
            }
            check.faultyAt(B + "match B;`" + word + ";", -2);
            PatternTrees x = check.set(B + "match B;_;");
            check.runs(x, word, 0, "-2");
            check.runs(x, "tt " + word, 0, "-2");
            check.runs(x, "(" + word + " tt)", 0, "-2");
            for (String near : new String[] {word + "x", "x" + word, word.substring(1), word.substring(0, word.length() - 1)}) {
                check.runs(check.good("data A=" + near + ";match A;" + near + ";", 1), near, 0, "0 1");
            }
        }
    }

    /** "0 .. 3 TYPES behind one"; "the fourth TYPE behind one"; new TYPE = CON TYPE */
    private static void typesBehindCons(Check check) {
        check.good("data A=aa;match A;aa;", 1);
        check.good("data A=aa I;match A;(aa 1);", 1);
        check.good("data A=aa I I;match A;(aa 1 2);", 1);
        PatternTrees x = check.good("data A=aa I I I|ab I I I;match A;(aa 1 2 3);", 1);
        check.runs(x, "(aa 1 2 3)", 0, "0 1 5 6 7");
        check.faultyAt("data A=aa I I I `I;match A;_;", -2);
        check.faultyAt("data A=aa|ab I I I `Q;match A;_;", -2);
        check.faultyAt("new A=aa`;match A;_;", -2);
        check.good("new A=aa I;match A;(aa 1);", 1);
        check.faultyAt("new A=aa I `I;match A;_;", -2);
    }

    /** "match tells 1 .. 4 COLUMNS"; "the fifth COLUMN" */
    private static void columns(Check check) {
        check.faultyAt(B + "match`;_;", -2);
        String types = "";
        String pats = "";
        for (int many = 1; many <= 4; many++) {
            types += many % 2 == 0 ? " I" : " B";
            pats += many % 2 == 0 ? " 3" : " tt";
            told(check, check.good(B + "match" + types + ";" + pats + ";", 1), "1 2 " + many + " 1 " + many);
        }
        check.faultyAt(B + "match" + types + " `B;" + pats + " _;", -2);
        check.faultyAt(B + "match" + types + " `I;" + pats + ";", -2);
        check.faultyAt(B + "match Q Q Q Q `Q;_;", -2);
    }

    /** "1 .. 12 ROWS"; "the 13th ROW" */
    private static void rows(Check check) {
        check.faultyAt(B + "match B;`", -2);
        check.faultyAt(B + "match B; \n`", -2);
        for (int many = 1; many <= 12; many++) {
            told(check, check.good(B + "match B;" + "ff;".repeat(many), many), "1 2 1 " + many + " " + many);
            told(check, check.good(B + "match B;" + "_ when;".repeat(many), many), "1 2 1 " + many + " " + many);
        }
        for (String row : new String[] {"ff;", "_ when;", "~_;", "(tt x);", "x@_;", "5", "zz"}) {
            check.faultyAt(B + "match B;" + "ff;".repeat(12) + "`" + row, -2);
        }
        PatternTrees x = check.good(B + "match B;" + "tt;".repeat(11) + "ff;", 12);
        check.runs(x, "ff", 0, "11 1");
        check.due("never(11)", x.never(11), 0);
        check.due("never(12)", x.never(12), -1);
    }

    /** "ROWS, of as many pats"; "( CON pat { pat } ) (as many as it has TYPES)" */
    private static void patsOfRows(Check check) {
        String[] columns = {"", " B", " B B", " B B B", " B B B B"};
        String[] cons = {"aa", "aa B", "aa B B", "aa B B B"};
        for (int many = 1; many <= 4; many++) {
            for (int pats = 1; pats <= 6; pats++) {
                String row = pats <= many ? "tt ".repeat(pats) + "`" : "tt ".repeat(many) + "`" + "tt ".repeat(pats - many);
                rowOf(check, B + "match" + columns[many] + ";", row, ";", pats == many);
                rowOf(check, B + "match" + columns[many] + ";", row, "when;", pats == many);
            }
        }
        for (int many = 1; many <= 3; many++) {
            for (int pats = 1; pats <= 5; pats++) {
                String row = pats <= many ? "tt ".repeat(pats) + "`" : "tt ".repeat(many) + "`" + "tt ".repeat(pats - many);
                rowOf(check, B + "data A=" + cons[many] + ";match A;(aa ", row, ");", pats == many);
            }
        }
        check.good(B + "data A=aa;match A;aa;", 1);
        check.faultyAt(B + "data A=aa;match A;(aa `tt);", -3);
        for (int many = 1; many <= 3; many++) {
            check.faultyAt(B + "data A=" + cons[many] + ";match A;`aa;", -3);
        }
        check.good(B + "new A=aa B;match A;(aa tt);", 1);
        check.faultyAt(B + "new A=aa B;match A;(aa tt `tt);", -3);
        check.faultyAt(B + "new A=aa B;match A;`aa;", -3);
    }

    private static void rowOf(Check check, String before, String row, String behind, boolean good) {
        if (good) {
            check.good(before + row.replace("`", "") + behind, 1);
        } else {
            check.faultyAt(before + row + behind, -3);
        }
    }

    /** "60 pats in all (those behind ~ ! @ and CONS, too)"; "the 61st pat" */
    private static void sixtyPats(Check check) {
        String types = "data B=tt|ff;data L=nn|co I L;new W=mk L;match L L L L;";
        // Eight ROWS of 7 pats are 56.
        String many = types + "~_!x z@nn w;".repeat(8);
        check.due("told(4) of 56", check.good(many, 8).told(4), 56);
        for (String four : new String[] {"_ _ _ _;", "(co 1 _) x;", "(co !_ x);", "~!y@_;"}) {
            PatternTrees x = Check.give(new PatternTrees(), many + four);
            boolean whole = four.equals("_ _ _ _;");
            check.due("text() of 60 pats, " + four, x.text(), whole ? 9 : -3);
            check.due("place() of 60 pats, " + four, x.place(), whole ? -1 : (many + four).length() - 1);
            check.due("told(4) of 60 pats, " + four, x.told(4), whole ? 60 : -1);
        }
        for (String pat : new String[] {"_", "x", "x@_", "~_", "!_", "7", "nn", "(co 1 _)", "zz", "(zz 1)"}) {
            check.faultyAt(many + "_ _ _ _;`" + pat + " _ _ _;", -2);
            check.faultyAt(many + "_ _ _ _ `" + pat + ";", -2);
            check.faultyAt(many + "_ _ _ ~`" + pat + ";", -2);
            check.faultyAt(many + "_ _ _ !`" + pat + ";", -2);
            check.faultyAt(many + "_ _ _ x@`" + pat + ";", -2);
            check.faultyAt(many + "_ _ _ (co `" + pat + ";", -2);
            check.faultyAt(many + "_ _ (co 1 `" + pat + ");", -2);
        }
    }

    /** "one in another 6 deep at most (those of a ROW are 1 deep)"; "one too deep" */
    private static void sixDeep(Check check) {
        String types = "data B=tt|ff;data N=ze|su N|tw I N;new W=mk W;match N;";
        String[] around = {"~", "!", "x@", "(su "};
        for (String a : around) {
            for (String b : around) {
                String five = a + b + a + b + a;
                String close = closing(five);
                check.due("told(4)", check.good(types + five + "ze" + close + ";", 1).told(4), 6);
                for (String pat : new String[] {"_", "y", "ze", "(su _)", "~_", "!_", "y@_", "5"}) {
                    check.faultyAt(types + five + b + "`" + pat + closing(five + b) + ";", -2);
                }
            }
        }
        // Those behind a CON are as deep one as the other, and each ROW begins anew.
        check.good(types + "(tw 1(tw 1(tw 1(tw 1(tw 1 _)))));(su(su(su(su(su _)))));_;", 3);
        check.faultyAt(types + "(tw 1(tw 1(tw 1(tw 1(tw 1(tw `1 _))))));", -2);
        check.faultyAt(types + "_;(su(su(su(su(su(su `_))))));", -2);
        check.good(types.replace("match N", "match W") + "(mk(mk(mk(mk(mk _)))));", 1);
        check.faultyAt(types.replace("match N", "match W") + "(mk(mk(mk(mk(mk(mk `_))))));", -2);
    }

    private static String closing(String around) {
        StringBuilder line = new StringBuilder();
        for (char c : around.toCharArray()) {
            line.append(c == '(' ? ")" : "");
        }
        return line.toString();
    }
}
