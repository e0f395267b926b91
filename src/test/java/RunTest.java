/** Promises 7, 8 and 9: run, looks, looked. */
public final class RunTest {
    private static final String T = "data B=tt|ff;data L=nn|co I L;data P=pa L B I;";
    private static final String NEWS = "new W=mk I;new V=wr W;new R=rr R;data Q=qq V W|qz;";

    public static void main(String[] args) {
        Check check = new Check();
        trying(check);
        places(check);
        strictAndLazy(check);
        newTypes(check);
        guards(check);
        valueFaults(check);
        looksAndStates(check);
        check.end();
    }

    private static void trying(Check check) {
        PatternTrees x = check.set(T + "match L B;(co 3 _) tt;x ff;nn _;");
        check.runs(x, "(co 3 ?) tt", 0, "0 1 5 2");
        check.runs(x, "(co 4 ?) tt", 0, "-5 1 5 2");
        check.runs(x, "(co 4 ?) ff", 0, "1 1 5 2");
        check.runs(x, "nn tt", 0, "2 1 2");
        check.runs(x, "nn ff", 0, "1 1 2");
        check.runs(x, "nn ?", 0, "-6 1 2");
        check.runs(x, "? tt", 0, "-6 1");
        check.runs(x, "(co ? nn) ff", 0, "-6 1 5");
        check.runs(x, "(co 3 nn) ff", 0, "1 1 5 2");
    }

    private static void places(Check check) {
        PatternTrees x = check.set(T + "match I B I P;_ _ _(pa(co 1(co 2 nn))ff 7);_ _ _ _;");
        check.runs(x, "1 tt 2(pa(co 1(co 2 nn))ff 7)", 0, "0 4 17 69 70 281 282 18 19");
        check.runs(x, "? ? ?(pa(co 1(co 2(co 3 ?)))? ?)", 0, "1 4 17 69 70 281 282");
        check.runs(x, "? ? ?(pa(co 0 ?)? ?)", 0, "1 4 17 69");
        PatternTrees deep = check.set("data T=le|no T T T;match I I I T;_ _ _(no _ _(no _ _(no _ _(no _ _ le))));");
        check.runs(deep, "0 0 0(no ? ?(no ? ?(no ? ?(no ? ? le))))", 0, "0 4 19 79 319 1279");
        PatternTrees six = check.set("data T=le|no T;match T;(no(no(no(no(no le)))));");
        check.runs(six, "(no(no(no(no(no le)))))", 0, "0 1 5 21 85 341 1365");
        check.runs(six, "(no(no(no(no(no ?)))))", 0, "-6 1 5 21 85 341 1365");
    }

    private static void strictAndLazy(Check check) {
        PatternTrees x = check.set(T + "match L L;!x ~(co 1 _);_ _;");
        check.runs(x, "nn ?", 0, "0 1");
        check.runs(x, "(co ? ?) ?", 0, "0 1");
        check.runs(x, "? nn", 0, "-6 1");
        PatternTrees y = check.set(T + "match L L;_ !a@(co !_ b@nn);~!nn !~nn;");
        check.runs(y, "? (co 1 nn)", 0, "0 2 9 10");
        check.runs(y, "? (co ? nn)", 0, "-6 2 9");
        check.runs(y, "? (co 1(co 2 ?))", 0, "1 2 9 10");
        check.runs(y, "? nn", 0, "1 2");
        check.runs(y, "? ?", 0, "-6 2");
    }

    private static void newTypes(Check check) {
        PatternTrees x = check.set(NEWS + "match V;(wr(mk 5));!(wr _);");
        check.runs(x, "(wr(mk 5))", 0, "0 1");
        check.runs(x, "(wr(mk 6))", 0, "1 1");
        check.runs(x, "?", 0, "-6 1");
        check.runs(x, "(wr ?)", 0, "-6 1");
        check.runs(x, "(wr(mk ?))", 0, "-6 1");
        PatternTrees y = check.set(NEWS + "match V W;(wr(mk _))(mk x);_ _;");
        check.runs(y, "? (mk ?)", 0, "0");
        PatternTrees z = check.set(NEWS + "match V;!x;");
        check.runs(z, "(wr ?)", 0, "-6 1");
        check.runs(z, "(wr(mk 0))", 0, "0 1");
        PatternTrees q = check.set(NEWS + "match I Q;_(qq(wr(mk 1))(mk 2));_ _;");
        check.runs(q, "? (qq(wr(mk 1))(mk 2))", 0, "0 2 9 10");
        check.runs(q, "? (qq(wr(mk 1))?)", 0, "-6 2 9 10");
        check.runs(q, "? (qq ? ?)", 0, "-6 2 9");
        check.runs(q, "? qz", 0, "1 2");
        // What is behind a new TYPE may be of that TYPE itself.
        PatternTrees r = check.set(NEWS + "match R R;(rr(rr x))_;");
        check.runs(r, "(rr ?)?", 0, "0");
        PatternTrees s = check.set(NEWS + "match R R;(rr(rr x))!_;");
        check.runs(s, "?(rr(rr(rr(rr(rr ?)))))", 0, "-6 2");
    }

    private static void guards(Check check) {
        PatternTrees x = check.set(T + "match B;" + Check.times("_ when;", 11) + "tt when;");
        check.runs(x, "tt", 0, "-5 1");
        check.runs(x, "tt", 1 << 11, "11 1");
        check.runs(x, "ff", 1 << 11, "-5 1");
        check.runs(x, "?", 1 << 10, "10");
        check.runs(x, "?", 1 << 11, "-6 1");
        check.runs(x, "?", 6, "1");
        check.runs(x, "?", -1, "0");
        check.runs(x, "tt", Integer.MIN_VALUE, "-5 1");
        check.runs(x, "tt", ~4095, "-5 1");
        PatternTrees y = check.set(T + "match B;tt when;_;");
        // A bit for a ROW without when is of no matter.
        check.runs(y, "tt", 0, "1 1");
        check.runs(y, "tt", 2, "1 1");
        check.runs(y, "tt", 1, "0 1");
        check.runs(y, "ff", 1, "1 1");
    }

    private static void valueFaults(Check check) {
        PatternTrees x = check.set(T + "match L;_;");
        String[] ofForm = {"", " \n", "_", "x", "L", "=", ";", "nn;", "(", ")", "()", "(nn)", "(co)", "(co 1",
            "(co 1 nn))", "~nn", "!nn", "x@nn", "when", "(when nn)", "data", "01", "1000", "co ~", "nN", "abcdefghi", "nn\t", "#",
            "(? nn)", "(1 2)", "((co 1 nn))", "(co 1(co 1(co 1(co 1(co 1(co 1 nn))))))", "xx _", "nn " + Check.times("?", 60),
            "nn when", "tt 1 |"};
        for (String values : ofForm) {
            check.runs(x, values, 0, "-2");
        }
        String[] ofMeaning = {"tt", "1", "xx", "(xx 1)", "co", "(co 1)", "(co 1 nn nn)", "(nn 1)", "(co nn nn)",
            "(co 1 2)", "nn nn", "nn ?", "? ?", "(co tt ?)", "(co ? co)", "(pa ? ? ?)", Check.times("?", 60)};
        for (String values : ofMeaning) {
            check.runs(x, values, 0, "-3");
        }
        check.runs(x, "(co 1(co 1(co 1(co 1(co 1 nn)))))", 0, "0");
        check.runs(x, " \n?\n", 0, "0");
        // Without a first value the form is at fault, also behind a run that had values; with one, meaning.
        check.runs(x, "", 0, "-2");
        PatternTrees y = check.set(T + "match L L;_ _;");
        check.runs(y, "", 0, "-2");
        check.runs(y, Check.times(" ", 1200), 0, "-2");
        check.runs(y, "nn", 0, "-3");
        check.runs(y, "nn nn nn", 0, "-3");
        PatternTrees w = check.set(NEWS + "match W;_;");
        check.runs(w, "mk", 0, "-3");
        check.runs(w, "5", 0, "-3");
        check.runs(w, "(mk(mk 5))", 0, "-3");
        check.runs(w, "(mk 1 2)", 0, "-3");
        manyValues(check);
    }

    private static void manyValues(Check check) {
        PatternTrees x = check.set("data T=le|no T T T;match T T T;_ _ _;");
        String four = "(no ? ? ?)";
        String thirteen = "(no" + Check.times(four, 3) + ")";
        String nineteen = "(no" + thirteen + four + "le)";
        String more = "(no" + thirteen + four + four + ")";
        check.runs(x, more + nineteen + nineteen, 0, "0");
        check.runs(x, more + more + nineteen, 0, "-2");
    }

    private static void looksAndStates(Check check) {
        PatternTrees x = new PatternTrees();
        Check.give(x, "tt");
        check.due("run without SET", x.run(0), -1);
        check.due("the tape stays", x.feed(0, 0, 0, 0, 0), 22);
        x.end(0);
        x.text();
        Check.give(x, T + "match B B;tt tt;").text();
        check.due("looks before run", x.looks(), 0);
        check.due("looked before run", x.looked(0), -1);
        check.runs(x, "tt ff", 0, "-5 1 2");
        check.due("run empties the tape", x.feed(0, 0, 0, 0, 0), 20);
        x.end(0);
        check.due("looked(-1)", x.looked(-1), -1);
        check.due("looked(2)", x.looked(2), -1);
        check.due("looked(greatest)", x.looked(Integer.MAX_VALUE), -1);
        check.due("looked(least)", x.looked(Integer.MIN_VALUE), -1);
        Check.give(x, "data").text();
        check.due("looks stays, as the SET does", Check.looks(x), " 1 2");
        check.runs(x, "tt nn", 0, "-3");
        check.due("looks with a FAULT", x.looks(), 0);
        check.due("a FAULT empties the tape", x.feed(0, 0, 0, 0, 0), 20);
        x.end(0);
        check.runs(x, "ff ?", 0, "-5 1");
        Check.give(x, T + "match B;tt;").text();
        check.due("looks of another SET", x.looks(), 0);
    }
}
