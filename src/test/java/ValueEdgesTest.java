/** 2 VALUES and promises 7, 8, 9: for each sentence an input on each side of its boundary. */
public final class ValueEdgesTest {
    private static final String T = "data B=tt|ff;data L=nn|co I L;new W=mk I;new V=wr W;new U=un L;data P=pa W U|pb;";

    public static void main(String[] args) {
        Check check = new Check();
        notThere(check);
        newTypes(check);
        tryingPats(check);
        whatEndsAll(check);
        behindTheLastRow(check);
        guards(check);
        lookedAtOnce(check);
        oneForEachColumn(check);
        sixDeep(check);
        sixtyValues(check);
        faultsOfMeaning(check);
        states(check);
        check.end();
    }

    /** "? (there is none: to look at it is UNDEFINED)": of each TYPE, looked at and not. */
    private static void notThere(Check check) {
        for (String type : new String[] {"I", "B", "L", "W", "V", "U", "P"}) {
            for (String lazy : new String[] {"_", "x", "x@_", "x@y@_", "~_", "~!_", "x@~!_"}) {
                check.runs(check.set(T + "match " + type + ";" + lazy + ";"), "?", 0, "0");
            }
            for (String strict : new String[] {"!_", "!x", "!~_", "x@!_", "!!_", "!x@~!_"}) {
                check.runs(check.set(T + "match " + type + ";" + strict + ";"), "?", 0, "-6 1");
            }
        }
        check.runs(check.set(T + "match I;0;_;"), "?", 0, "-6 1");
        check.runs(check.set(T + "match I;~0;_;"), "?", 0, "0");
        check.runs(check.set(T + "match B;tt;_;"), "?", 0, "-6 1");
        check.runs(check.set(T + "match B;~tt;_;"), "?", 0, "0");
        PatternTrees x = check.set(T + "match L;(co _ _);nn;");
        check.runs(x, "?", 0, "-6 1");
        check.runs(x, "(co ? ?)", 0, "0 1");
        PatternTrees y = check.set(T + "match L;(co !_ _);_;");
        check.runs(y, "(co ? ?)", 0, "-6 1 5");
        check.runs(y, "(co 0 ?)", 0, "0 1 5");
        PatternTrees z = check.set(T + "match L;(co _ !_);_;");
        check.runs(z, "(co ? ?)", 0, "-6 1 6");
        check.runs(z, "(co ? nn)", 0, "0 1 6");
    }

    /** "A value of a new TYPE is what is behind its CON, no more: to look at it is to look at that." */
    private static void newTypes(Check check) {
        PatternTrees bare = check.set(T + "match V U;(wr(mk x))(un y);");
        for (String values : new String[] {"? ?", "(wr ?)(un ?)", "(wr(mk ?))(un nn)", "(wr(mk 3))(un(co ? ?))"}) {
            check.runs(bare, values, 0, "0");
        }
        for (String pat : new String[] {"!_", "(wr !_)", "(wr(mk !_))", "!(wr !(mk !_))", "x@(wr !y)"}) {
            PatternTrees x = check.set(T + "match V;" + pat + ";");
            for (String value : new String[] {"?", "(wr ?)", "(wr(mk ?))"}) {
                check.runs(x, value, 0, "-6 1");
            }
            check.runs(x, "(wr(mk 0))", 0, "0 1");
        }
        PatternTrees numbers = check.set(T + "match V;(wr(mk 999));");
        check.runs(numbers, "(wr(mk 999))", 0, "0 1");
        check.runs(numbers, "(wr(mk 998))", 0, "-5 1");
        PatternTrees lazy = check.set(T + "match V;~(wr(mk 1));(wr ~(mk 1));");
        check.runs(lazy, "?", 0, "0");
        PatternTrees inside = check.set(T + "match V;(wr ~(mk 1));");
        check.runs(inside, "?", 0, "0");
        // "behind that of a new TYPE: p itself": what is behind (un ..) of COLUMN 1 is at 2, its parts at 9 and 10.
        PatternTrees places = check.set(T + "match I U;_(un(co 1(co 2 nn)));_ !_;");
        check.runs(places, "? (un(co 1(co 2 nn)))", 0, "0 2 9 10 41 42");
        check.runs(places, "? (un nn)", 0, "1 2");
        check.runs(places, "? (un ?)", 0, "-6 2");
        PatternTrees behind = check.set(T + "match P;(pa(mk 5)(un(co 7 _)));(pa !_ ~_);");
        check.runs(behind, "(pa(mk 5)(un(co 7 ?)))", 0, "0 1 5 6 25");
        check.runs(behind, "(pa(mk 4)?)", 0, "1 1 5");
        check.runs(behind, "(pa(mk 5)(un(co 8 ?)))", 0, "1 1 5 6 25");
        check.runs(behind, "(pa ? ?)", 0, "-6 1 5");
    }

    /** TRYING: what each pat looks at, what it matches, and what is next to that. */
    private static void tryingPats(Check check) {
        PatternTrees number = check.set(T + "match I;7;");
        check.runs(number, "7", 0, "0 1");
        check.runs(number, "6", 0, "-5 1");
        check.runs(number, "8", 0, "-5 1");
        PatternTrees con = check.set(T + "match B B;tt _;");
        check.runs(con, "tt ?", 0, "0 1");
        check.runs(con, "ff ?", 0, "-5 1");
        PatternTrees named = check.set(T + "match L;x@(co y@1 z@nn);");
        check.runs(named, "(co 1 nn)", 0, "0 1 5 6");
        check.runs(named, "(co 1(co 1 nn))", 0, "-5 1 5 6");
        PatternTrees strict = check.set(T + "match L;!(co !1 !nn);");
        check.runs(strict, "(co 1 nn)", 0, "0 1 5 6");
        check.runs(strict, "nn", 0, "-5 1");
        // "its pats are tried from the left"
        PatternTrees left = check.set("data Q=qq I I I;match Q Q;(qq 1 2 3)(qq 4 5 6);");
        check.runs(left, "(qq 1 2 3)(qq 4 5 6)", 0, "0 1 5 6 7 2 9 10 11");
        check.runs(left, "(qq 1 2 3)(qq 4 5 7)", 0, "-5 1 5 6 7 2 9 10 11");
        check.runs(left, "(qq 1 2 9)(qq 4 5 6)", 0, "-5 1 5 6 7");
        check.runs(left, "(qq 9 ? ?) ?", 0, "-5 1 5");
        check.runs(left, "(qq 1 ? 9) ?", 0, "-6 1 5 6");
    }

    /** "What FAILS, or is UNDEFINED, ends all."; "a ROW that FAILS is left for the next one; UNDEFINED ends all." */
    private static void whatEndsAll(Check check) {
        PatternTrees x = check.set(T + "match B B B;tt tt tt;_ ff _;_ _ !_;");
        check.runs(x, "tt tt tt", 0, "0 1 2 3");
        check.runs(x, "tt ff ?", 0, "1 1 2");
        check.runs(x, "ff ff ?", 0, "1 1 2");
        check.runs(x, "ff tt ff", 0, "2 1 2 3");
        check.runs(x, "ff tt ?", 0, "-6 1 2 3");
        check.runs(x, "ff ? tt", 0, "-6 1 2");
        check.runs(x, "tt tt ?", 0, "-6 1 2 3");
        check.runs(x, "? ff tt", 0, "-6 1");
        // A FAILURE to the left is found before what is not there to the right, and the other way round.
        PatternTrees y = check.set(T + "match L;(co 1(co 2 nn));_;");
        check.runs(y, "(co 2 ?)", 0, "1 1 5");
        check.runs(y, "(co ? nn)", 0, "-6 1 5");
        check.runs(y, "(co 1(co 3 ?))", 0, "1 1 5 6 25");
        check.runs(y, "(co 1(co ? nn))", 0, "-6 1 5 6 25");
    }

    /** "Behind the last ROW: FAILED." */
    private static void behindTheLastRow(Check check) {
        PatternTrees one = check.set(T + "match B;tt;");
        check.runs(one, "tt", 0, "0 1");
        check.runs(one, "ff", 0, "-5 1");
        PatternTrees twelve = check.set(T + "match I;0;1;2;3;4;5;6;7;8;9;10;11;");
        for (int i = 0; i < 12; i++) {
            check.runs(twelve, "" + i, 0, i + " 1");
        }
        check.runs(twelve, "12", 0, "-5 1");
        check.runs(twelve, "999", 0, "-5 1");
        check.runs(check.set(T + "match B;_ when;"), "?", 0, "-5");
        check.runs(check.set(T + "match B;_ when;"), "?", 1, "0");
    }

    /** "A ROW with when that matches is taken if its GUARD holds (.. 2 to the power of the ROW's number), else left" */
    private static void guards(Check check) {
        PatternTrees all = check.set(T + "match B;" + "_ when;".repeat(12));
        PatternTrees none = check.set(T + "match B;tt;" + "_;".repeat(11));
        for (int bit = 0; bit < 32; bit++) {
            check.runs(all, "?", 1 << bit, bit < 12 ? "" + bit : "-5");
            check.runs(all, "?", ~(1 << bit), bit == 0 ? "1" : "0");
            check.runs(all, "?", -1 << bit, bit < 12 ? "" + bit : "-5");
            check.runs(none, "tt", 1 << bit, "0 1");
            check.runs(none, "ff", 1 << bit, "1 1");
        }
        check.runs(all, "?", 0, "-5");
        check.runs(all, "?", 4095, "0");
        check.runs(all, "?", 4096, "-5");
        check.runs(all, "?", Integer.MIN_VALUE, "-5");
        check.runs(all, "?", Integer.MAX_VALUE, "0");
        // A GUARD is of no matter where its ROW does not match, or has looked at what is not there.
        PatternTrees x = check.set(T + "match B B;tt _ when;ff tt when;_ !_ when;");
        check.runs(x, "tt ?", 1, "0 1");
        check.runs(x, "tt ff", 2, "-5 1 2");
        check.runs(x, "ff tt", 1, "-5 1 2");
        check.runs(x, "ff tt", 2, "1 1 2");
        check.runs(x, "ff tt", 4, "2 1 2");
        check.runs(x, "ff ff", 3, "-5 1 2");
        check.runs(x, "ff ff", 7, "2 1 2");
        check.runs(x, "? tt", 7, "-6 1");
        check.runs(x, "tt ?", 6, "-6 1 2");
    }

    /** "LOOKED AT are PLACES, each counted once, in the order in which they are first looked at." */
    private static void lookedAtOnce(Check check) {
        PatternTrees x = check.set(T + "match B B B B;_ _ _ tt;_ tt _ ff;!_ tt _ tt;_ _ tt _;ff ff ff ff;_ _ _ _;");
        check.runs(x, "ff ff ff ff", 0, "4 4 2 1 3");
        check.runs(x, "tt tt tt tt", 0, "0 4");
        check.runs(x, "tt ff tt ff", 0, "3 4 2 1 3");
        PatternTrees y = check.set(T + "match L;!x@(co !!1 !_);!(co !2 _);!(co !3 !nn);");
        check.runs(y, "(co 3 nn)", 0, "2 1 5 6");
        check.runs(y, "(co 2 ?)", 0, "1 1 5");
        // All of 60 values are looked at.
        String thirteen = "(no" + "(no le le le)".repeat(3) + ")";
        String sixty = "(no" + thirteen.repeat(3) + ")" + thirteen + "(no le le le)(on le le)";
        PatternTrees z = check.set("data T=le|no T T T|on T T;match T T T T;" + sixty + ";");
        check.due("told(4)", z.told(4), 60);
        check.due("run(0) of 60 values", Check.give(z, sixty).run(0), 0);
        check.due("looks() of all", z.looks(), 60);
        check.due("looked(0)", z.looked(0), 1);
        check.due("looked(57)", z.looked(57), 4);
        check.due("looked(59)", z.looked(59), 18);
        check.due("looked(60)", z.looked(60), -1);
    }

    /** "a row of values, one for each COLUMN": none is of the form, fewer and more are of meaning. */
    private static void oneForEachColumn(Check check) {
        for (int columns = 1; columns <= 4; columns++) {
            PatternTrees x = check.set(T + "match" + " B".repeat(columns) + ";" + "_ ".repeat(columns) + ";");
            check.runs(x, "", 0, "-2");
            check.runs(x, " \n ", 0, "-2");
            for (int values = 1; values <= 6; values++) {
                check.runs(x, "tt ".repeat(values), 0, values == columns ? "0" : "-3");
                check.runs(x, "?".repeat(values), 0, values == columns ? "0" : "-3");
            }
        }
    }

    /** "6 deep .. at most" */
    private static void sixDeep(Check check) {
        PatternTrees x = check.set(T + "match I L;_ !_;");
        check.runs(x, "? (co 1(co 1(co 1(co 1(co 1 nn)))))", 0, "0 2");
        check.runs(x, "? (co 1(co 1(co 1(co 1(co 1 ?)))))", 0, "0 2");
        check.runs(x, "? (co 1(co 1(co 1(co 1(co 1(co 1 nn))))))", 0, "-2");
        check.runs(x, "? (co 1(co 1(co 1(co 1(co 1(co ? ?))))))", 0, "-2");
        check.runs(x, "? (co 1(co 1(co 1(co 1(co 1(co 1", 0, "-2");
        PatternTrees y = check.set("data R=re;new A=aa B;new B=ba C;new C=ca D;new D=da E;data E=ea R;match A;(aa(ba(ca(da(ea re)))));");
        check.runs(y, "(aa(ba(ca(da(ea re)))))", 0, "0 1 5");
        check.runs(y, "(aa(ba(ca(da(ea ?)))))", 0, "-6 1 5");
        check.runs(y, "(aa(ba(ca(da ?))))", 0, "-6 1");
        PatternTrees z = check.set("new A=aa A;match A;!_;");
        check.runs(z, "(aa(aa(aa(aa(aa ?)))))", 0, "-6 1");
        check.runs(z, "(aa(aa(aa(aa(aa(aa ?))))))", 0, "-2");
    }

    /** ".. and 60 at most" */
    private static void sixtyValues(Check check) {
        String thirteen = "(no(no ? ? ?)(no ? ? ?)(no ? ? ?))";
        String forty = "(no" + thirteen.repeat(3) + ")";
        PatternTrees y = check.set("data T=le|no T T T|on T T;match T T T;_ _ !_;");
        check.runs(y, forty + thirteen + "(no(no ? ? le)? ?)", 0, "0 3");
        check.runs(y, forty + thirteen + "(no(on ? le)(on ? le)?)", 0, "-2");
        check.runs(y, thirteen + forty + "(no(no ? ? le)? ?)", 0, "0 3");
        check.runs(y, thirteen + forty + "(no(on ? le)(on ? le)?)", 0, "-2");
        check.runs(y, "?".repeat(60), 0, "-3");
        check.runs(y, "?".repeat(61), 0, "-2");
        check.runs(y, "le ".repeat(60), 0, "-3");
        check.runs(y, "le ".repeat(61), 0, "-2");
    }

    /** "-3 of meaning (as of pats)"; what is wrong is wrong in any COLUMN, and the form comes first. */
    private static void faultsOfMeaning(Check check) {
        PatternTrees x = check.set(T + "match L W;_ _;");
        String[] wrong = {"zz", "tt", "mk", "5", "co", "(zz 1)", "(co 1)", "(co 1 nn nn)", "(nn nn)", "(co nn nn)", "(co 1 2)",
            "(co tt nn)", "(co ? (mk 1))", "(mk 1)", "(co 1(co 1))", "(co 1 co)", "(un nn)"};
        for (String value : wrong) {
            check.runs(x, value + " ?", 0, "-3");
            check.runs(x, value + " ? #", 0, "-2");
            check.runs(x, value + " (mk", 0, "-2");
        }
        for (String value : new String[] {"zz", "nn", "mk", "5", "(mk tt)", "(mk 1 2)", "(wr(mk 1))", "(mk(mk 1))", "(mk ?)?"}) {
            check.runs(x, "nn " + value, 0, "-3");
        }
        check.runs(x, "nn (mk 1)", 0, "0");
        check.runs(x, "(co 1 nn)(mk ?)", 0, "0");
        check.runs(x, "(co ?(co 1 ?))?", 0, "0");
    }

    /** "NONE (the tape stays)", "(0 before, with a FAULT)", and "is empty then" in each other case. */
    private static void states(Check check) {
        PatternTrees x = Check.give(new PatternTrees(), "tt");
        check.due("run() without a SET", x.run(-1), -1);
        check.due("looks() without a SET", x.looks(), -1);
        check.due("looked(0) without a SET", x.looked(0), -1);
        check.due("the tape stays", x.feed(0, 0, 0, 0, 0), 22);
        check.due("end(0)", x.end(0), 2);
        check.due("text() of what stayed", x.text(), -2);
        check.due("place()", x.place(), 0);
        // A FAULT leaves the object without a SET as it was.
        Check.give(x, "tt");
        check.due("run() behind a FAULT", x.run(0), -1);
        check.due("the tape stays again", x.feed(0, 0, 0, 0, 0), 22);
        x.end(0);
        x.text();
        Check.give(x, T + "match B B;tt !_;").text();
        check.due("looks() before", x.looks(), 0);
        check.due("looked(0) before", x.looked(0), -1);
        String[][] runs = {{"tt ff", "0 1 2"}, {"tt #", "-2"}, {"tt ff", "0 1 2"}, {"tt", "-3"}, {"ff ?", "-5 1"}, {"", "-2"},
            {"tt ?", "-6 1 2"}, {"tt 1", "-3"}, {"? ?", "-6 1"}};
        for (String[] run : runs) {
            check.runs(x, run[0], 0, run[1]);
            int looks = run[1].split(" ").length - 1;
            check.due("looked(-1) of " + run[0], x.looked(-1), -1);
            check.due("looked(looks()) of " + run[0], x.looked(looks), -1);
            check.due("looked(least)", x.looked(Integer.MIN_VALUE), -1);
            check.due("looked(greatest)", x.looked(Integer.MAX_VALUE), -1);
            check.due("place() behind " + run[0], x.place(), -1);
            check.due("the tape is empty behind " + run[0], x.feed(0, 0, 0, 0, 0), 20);
            x.end(0);
        }
        check.runs(x, "tt ff", 0, "0 1 2");
        Check.give(x, "data").text();
        check.due("looks() of this SET, which stays", Check.looks(x), " 1 2");
        Check.give(x, T + "match B B;tt !_;").text();
        check.due("looks() of another SET", x.looks(), 0);
        check.due("looked(0) of another SET", x.looked(0), -1);
    }
}
