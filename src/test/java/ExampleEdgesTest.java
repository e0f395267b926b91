/** 3 and promises 10, 11, 12: for each sentence an input on each side of its boundary. */
public final class ExampleEdgesTest {
    private static final String T = "data B=tt|ff;data L=nn|co I L;data C=re|gr|bl;new W=mk I;new U=un C;data P=pa C U|pb;";

    public static void main(String[] args) {
        Check check = new Check();
        missed(check);
        never(check);
        rowsWithoutWhen(check);
        whatIsAskedFor(check);
        whatIsFirst(check);
        settledOnce(check);
        eachCon(check);
        eachNumber(check);
        untilNoRowIsLeft(check);
        written(check);
        states(check);
        check.end();
    }

    /** An empty example stands for none. */
    private static PatternTrees set(Check check, String rows, String example, String nevers) {
        PatternTrees x = check.set(T + "match " + rows);
        check.due("misses() of " + rows, x.misses(), example.isEmpty() ? 0 : 1);
        check.due("THE EXAMPLE of " + rows, Check.example(x), example);
        check.due("never of " + rows, Check.nevers(x), nevers);
        check.due("example(-1) of " + rows, x.example(-1), -1);
        check.due("example() behind the last byte of " + rows, x.example(example.length()), -1);
        check.due("never(-1) of " + rows, x.never(-1), -1);
        check.due("never() behind the last ROW of " + rows, x.never(nevers.length()), -1);
        return x;
    }

    /** "MISSED if no ROW without when matches it": all but one value are matched, and then all. */
    private static void missed(Check check) {
        set(check, "C;re;gr;", "bl", "00");
        set(check, "C;re;gr;bl;", "", "000");
        set(check, "C;re;gr;bl when;", "bl", "000");
        set(check, "C;re;gr;_;", "", "000");
        set(check, "C;re;gr;_ when;", "bl", "000");
        check.due("misses() of the only CON", check.set("data S=si;match S;si;").misses(), 0);
        check.due("misses() of the only CON with when", check.set("data S=si;match S;si when;").misses(), 1);
        set(check, "B B;tt tt;tt ff;ff tt;", "ff ff", "000");
        set(check, "B B;tt tt;tt ff;ff tt;ff ff;", "", "0000");
        set(check, "B B;tt tt;tt ff;ff tt;ff ff when;", "ff ff", "0000");
        set(check, "I;0;1;2;3;4;5;6;7;8;9;10;11;", "12", "000000000000");
        set(check, "I;0;1;2;3;4;5;6;7;8;9;10;_;", "", "000000000000");
        set(check, "I;~0;", "", "0");
        set(check, "I;!0;", "1", "0");
        set(check, "L;nn;(co _ nn);(co _(co _ nn));", "(co _ (co _ (co _ _)))", "000");
        set(check, "L;nn;(co _ nn);(co _(co _ _));", "", "000");
    }

    /** "NEVER taken if each row of values that it matches is matched by some ROW without when ahead of it" */
    private static void never(Check check) {
        set(check, "C;re;gr;_;bl;", "", "0001");
        set(check, "C;re;gr;bl;_;", "", "0001");
        set(check, "C;re;gr;bl;_ when;", "", "0001");
        set(check, "C;re;gr;bl when;_;", "", "0000");
        set(check, "C;re;gr;_;", "", "000");
        set(check, "C;_;_;", "", "01");
        set(check, "C;_ when;_;", "", "00");
        set(check, "C;_ when;_ when;", "_", "00");
        set(check, "C;_;_ when;", "", "01");
        // What is behind it is of no matter, nor is it itself.
        set(check, "C;re;_;", "", "00");
        set(check, "C;re;re;", "gr", "01");
        set(check, "C;re when;re;re;", "gr", "001");
        // By several ROWS together, and by all but one value.
        set(check, "B C;tt re;_ gr;tt bl;tt _;ff _;", "", "00010");
        set(check, "B C;tt re;ff gr;tt bl;tt _;ff _;", "", "00000");
        set(check, "I I;0 _;_ 0;0 0;1 1;1 _;1 0;", "2 1", "001001");
        set(check, "I;0;_;0;7;", "", "0011");
        set(check, "I;~5;5;", "", "01");
        set(check, "I;!5;5;!5;6;", "0", "0110");
        set(check, "U;(un re);(un _);(un gr);_;", "", "0011");
        set(check, "U;_ when;(un x);~(un re);", "", "001");
        String eleven = "re;gr;".repeat(5) + "re;";
        set(check, "C;" + eleven + "bl;", "", "001111111110");
        set(check, "C;" + eleven + "_;", "", "001111111110");
        set(check, "C;" + eleven + "gr;", "bl", "001111111111");
    }

    /** "begin with _ for each COLUMN, and all ROWS without when" */
    private static void rowsWithoutWhen(Check check) {
        set(check, "C;_ when;", "_", "0");
        set(check, "C I L W;re 1 nn (mk 2) when;", "_ _ _ _", "0");
        set(check, "C I L W;_ _ _ _ when;", "_ _ _ _", "0");
        set(check, "C I;re 1 when;bl _;", "re _", "00");
        set(check, "C I;re 1 when;_ 3;bl 2 when;", "_ 0", "000");
        // The twelfth ROW is the only one without when.
        set(check, "C;" + "_ when;".repeat(11) + "re;", "gr", "000000000000");
        set(check, "C;" + "_ when;".repeat(11) + "~re;", "", "000000000000");
        set(check, "I;" + "5 when;".repeat(11) + "0;", "1", "000000000000");
        set(check, "C B;" + "re tt;".repeat(10) + "_ ff;re tt;", "gr tt", "011111111101");
        lastRowOfAllPats(check);
        sixtyAsks(check);
    }

    /** "60 pats in all", each of which asks, with CONS of eight letters: by the last PLACE alone something is MISSED. */
    private static void sixtyAsks(Check check) {
        String four = "(aaaaaaaa uaaaaaaa uaaaaaaa uaaaaaaa)";
        String thirteen = "(baaaaaaa " + four + " " + four + " " + four + ")";
        String forty = "(caaaaaaa " + thirteen + " " + thirteen + " " + thirteen + ")";
        String row = forty + " " + thirteen + " " + four + " (daaaaaaa uaaaaaaa uaaaaaaa)";
        String types = "data U=uaaaaaaa|ubbbbbbb;data A=aaaaaaaa U U U;data B=baaaaaaa A A A;data C=caaaaaaa B B B;"
                + "data D=daaaaaaa U U;match C B A D;";
        String due = row.substring(0, row.length() - 9) + "ubbbbbbb)";
        // It is longer than the calls that an object is used for, so it is read from two.
        int half = due.length() / 2;
        PatternTrees first = check.set(types + row + ";");
        PatternTrees second = check.set(types + row + ";");
        check.due("told(4) of 60 asks", first.told(4), 60);
        check.due("misses() of 60 asks", first.misses(), 1);
        check.due("never(0) of 60 asks", first.never(0), 0);
        for (int i = 0; i < due.length(); i++) {
            check.due("example(" + i + ") of 60 asks", (i < half ? first : second).example(i), due.charAt(i));
        }
        check.due("example() behind 60 asks", second.example(due.length()), -1);
        PatternTrees only = check.set(types.replace("|ubbbbbbb", "") + row + ";");
        check.due("misses() of 60 asks for the only CON", only.misses(), 0);
        check.due("example(0) of 60 asks for the only CON", only.example(0), -1);
        check.due("never(0) of 60 asks for the only CON", only.never(0), 0);
    }

    /** Eleven ROWS of one pat, and 49 pats that ask in the twelfth: all but the last way are as it asks. */
    private static void lastRowOfAllPats(Check check) {
        String four = "(aa ua ua ua)";
        String thirteen = "(ba " + four + " " + four + " " + four + ")";
        String row = "(da (ca " + thirteen + " " + thirteen + " " + thirteen + ") " + four + " " + four + ")";
        String types = "data U=ua|ub;data A=aa U U U;data B=ba A A A;data C=ca B B B;data D=da C A A;match D;";
        PatternTrees x = check.set(types + "_ when;".repeat(11) + row + ";");
        check.due("told(4)", x.told(4), 60);
        check.due("THE EXAMPLE of 49 pats", Check.example(x), row.substring(0, row.length() - 4) + "ub))");
        check.due("never of 49 pats", Check.nevers(x), "000000000000");
        PatternTrees y = check.set(types.replace("|ub", "") + "_ when;".repeat(10) + "_;" + row + ";");
        check.due("misses() of 49 pats", y.misses(), 0);
        check.due("never of 49 pats behind _", Check.nevers(y), "000000000001");
    }

    /** "a CON of a new TYPE asks for nothing itself, nor does ~ pat; ! and LETTER @ ask for what their pats do" */
    private static void whatIsAskedFor(Check check) {
        set(check, "C;~re;", "", "0");
        set(check, "C;!~re;", "", "0");
        set(check, "C;x@~re;", "", "0");
        set(check, "C;~!re;", "", "0");
        set(check, "C;!re;", "gr", "0");
        set(check, "C;x@re;", "gr", "0");
        set(check, "C;!x@!re;", "gr", "0");
        set(check, "C;!_;", "", "0");
        set(check, "C;!x;", "", "0");
        set(check, "U;(un _);", "", "0");
        set(check, "U;(un ~re);", "", "0");
        set(check, "U;(un !re);", "(un gr)", "0");
        set(check, "U;!(un x@re);", "(un gr)", "0");
        set(check, "C C;~re gr;", "_ re", "0");
        set(check, "C C;re ~gr;", "gr _", "0");
    }

    /** "the first ROW asks .. at its first PLACE from the left (a CON's own PLACE ahead of those behind it" */
    private static void whatIsFirst(Check check) {
        set(check, "C C;_ re;re _;", "gr gr", "00");
        // Each of these settles another PLACE first: by the first ROW, and there by the first one that asks.
        set(check, "B B;tt _;_ tt;", "ff ff", "00");
        set(check, "B L;_(co 1 nn);ff nn;", "tt nn", "00");
        set(check, "P C;(pa gr _) _;pb re;", "(pa re _) _", "00");
        set(check, "P C;(pa _(un gr))_;(pa re _)_;pb _;", "(pa gr (un re)) _", "000");
        set(check, "C P;_(pa gr _);re _;", "gr (pa re _)", "00");
        set(check, "L B;(co _(co _ _))tt;nn _;(co _ nn)_;", "(co _ (co _ _)) ff", "000");
    }

    /** "what is settled is not asked for again" */
    private static void settledOnce(Check check) {
        set(check, "C C;re re;re gr;gr _;", "re bl", "000");
        set(check, "C C;re re;re gr;re bl;gr _;", "bl _", "0000");
        set(check, "L;(co 1 nn);(co 1(co _ _));nn;", "(co 0 _)", "000");
        set(check, "C;re;re;gr;gr;", "bl", "0101");
    }

    /** "with each CON of that TYPE in the order in which they are told" */
    private static void eachCon(Check check) {
        set(check, "C;bl;", "re", "0");
        set(check, "C;gr;bl;", "re", "00");
        set(check, "C;re;", "gr", "0");
        set(check, "C;re;bl;", "gr", "00");
        set(check, "C;bl;re;", "gr", "00");
        set(check, "C;gr;re;", "bl", "00");
        PatternTrees six = check.set("data A=fa|ea|da|ca|ba|aa;match A;fa;ea;da;ca;ba;");
        check.due("the last of six CONS", Check.example(six), "aa");
        PatternTrees all = check.set("data A=fa|ea|da|ca|ba|aa;match A;fa;ea;da;ca;ba;aa;");
        check.due("all of six CONS", Check.example(all), "");
        PatternTrees first = check.set("data A=fa|ea|da|ca|ba|aa;match A;aa;ea;da;ca;ba;");
        check.due("the first of six CONS", Check.example(first), "fa");
        PatternTrees sixth = check.set("data A=fa|ea|da|ca|ba|aa;match A A;fa _;ea _;da _;ca _;ba _;aa ca;");
        check.due("by the last of six CONS", Check.example(sixth), "aa fa");
        check.due("never by six CONS", Check.nevers(sixth), "000000");
        PatternTrees behind = check.set("data A=fa|ea|da|ca|ba|aa;match A A;fa _;ea _;da _;ca _;ba _;aa ca;_ _;_ fa;");
        check.due("never behind six CONS", Check.nevers(behind), "00000001");
        // CONS of a TYPE that is told behind another one.
        PatternTrees last = check.set("data A=za|zb;data B=aa|ab;match B A;aa za;");
        check.due("the way by the first CON", Check.example(last), "aa zb");
        check.due("another TYPE", Check.example(check.set("data A=za|zb;data B=aa|ab;match B A;ab _;aa za;")), "aa zb");
        check.due("and its first CON", Check.example(check.set("data A=za|zb;data B=aa|ab;match B A;ab za;aa _;")), "ab zb");
    }

    /** "(or each NUMBER that some ROW left asks for there, rising, then the least that none does)" */
    private static void eachNumber(Check check) {
        set(check, "I;0;", "1", "0");
        set(check, "I;1;", "0", "0");
        set(check, "I;1;0;", "2", "00");
        set(check, "I;2;0;", "1", "00");
        set(check, "I;999;", "0", "0");
        set(check, "I;999;998;1;0;2;4;", "3", "000000");
        set(check, "I B;7 tt;3 tt;5 tt;", "3 ff", "000");
        set(check, "I B;7 tt;3 _;5 tt;", "5 ff", "000");
        set(check, "I B;7 tt;3 _;5 _;", "7 ff", "000");
        set(check, "I B;7 _;3 _;5 _;", "0 _", "000");
        set(check, "I B;7 _;0 _;1 _;", "2 _", "000");
        // Those of ROWS with when, behind ~, or of ROWS that are gone, are not asked for.
        set(check, "I;0;1 when;", "1", "00");
        set(check, "I;0;~1;", "", "00");
        set(check, "B I;tt 0;ff 1;ff 0;", "tt 1", "000");
        set(check, "B I;tt _;ff 1;ff 0;", "ff 2", "000");
        set(check, "B I;ff 1;tt 0;_ 2;ff 0;", "tt 1", "0000");
        set(check, "W;(mk 0);(mk 1);", "(mk 2)", "00");
        set(check, "L;(co 0 _);(co 1 _);nn;", "(co 2 _)", "000");
        set(check, "L;nn;(co 10 nn);(co 9 _);(co 100 nn);(co 0 _);", "(co 10 (co _ _))", "00000");
    }

    /** "until there is no ROW (then it is found), or the first one asks for nothing (then not by this way)" */
    private static void untilNoRowIsLeft(Check check) {
        set(check, "B B;tt _;ff tt;", "ff ff", "00");
        set(check, "B B;tt _;ff _;", "", "00");
        set(check, "C C;re _;gr re;gr gr;gr bl;bl gr;", "bl re", "00000");
        set(check, "B B B;tt tt _;tt _ tt;ff _ _;", "tt ff ff", "000");
        set(check, "B B B;tt tt _;tt _ tt;ff _ _;_ ff _;", "", "0000");
        set(check, "B;_;tt;", "", "01");
        set(check, "I I;0 _;1 0;_ _ when;", "1 1", "000");
        set(check, "I I;0 _;1 _;_ 0;", "2 1", "000");
        set(check, "I I;0 _;1 _;_ _;", "", "000");
    }

    /** "_ where nothing is asked for, NUMBERS, CONS, those with values in ( ) with blanks between" */
    private static void written(Check check) {
        set(check, "C;re;", "gr", "0");
        set(check, "L;nn;", "(co _ _)", "0");
        set(check, "P;pb;", "(pa _ _)", "0");
        set(check, "P;pb;(pa _(un re));", "(pa _ (un gr))", "00");
        set(check, "P;pb;(pa re _);(pa _(un _));", "", "000");
        set(check, "P;pb;(pa re(un re));", "(pa re (un gr))", "00");
        for (int number : new int[] {0, 9, 10, 99, 100, 999}) {
            set(check, "B I;tt " + number + ";ff _;", "tt " + (number == 0 ? 1 : 0), "00");
            set(check, "I B;" + number + " tt;", number + " ff", "0");
        }
        PatternTrees x = set(check, "I L B U;_ nn _ _;", "_ (co _ _) _ _", "0");
        String line = "_ (co _ _) _ _";
        for (int i = 0; i < line.length(); i++) {
            check.due("example(" + i + ")", x.example(i), line.charAt(i));
        }
        PatternTrees six = check.set("data N=ze|su N;match N;(su(su(su(su(su ze)))));ze;(su ze);(su(su ze));(su(su(su ze)));"
                + "(su(su(su(su ze))));");
        check.due("six deep", Check.example(six), "(su (su (su (su (su (su _))))))");
        PatternTrees news = check.set("new A=aa B;new B=ba C;new C=ca D;new D=da E;data E=ea I;match A;(aa(ba(ca(da(ea 0)))));");
        check.due("new TYPES around", Check.example(news), "(aa (ba (ca (da (ea 1)))))");
        PatternTrees eight = check.set("data A=abcdefgh I|zzzzzzzz;match A;(abcdefgh 0);zzzzzzzz;");
        check.due("CONS of eight letters", Check.example(eight), "(abcdefgh 1)");
    }

    /** "NONE: also without one", "NONE: none such", and no SET. */
    private static void states(Check check) {
        PatternTrees x = new PatternTrees();
        for (int i : new int[] {-1, 0, 1, 11, 12, Integer.MAX_VALUE, Integer.MIN_VALUE}) {
            check.due("example(" + i + ") without a SET", x.example(i), -1);
            check.due("never(" + i + ") without a SET", x.never(i), -1);
        }
        check.due("misses() without a SET", x.misses(), -1);
        Check.give(x, T + "match C;zz;").text();
        check.due("misses() with a FAULT", x.misses(), -1);
        check.due("example(0) with a FAULT", x.example(0), -1);
        check.due("never(0) with a FAULT", x.never(0), -1);
        PatternTrees y = set(check, "C;re;_;", "", "00");
        for (int i : new int[] {-1, 0, 1, 2, Integer.MAX_VALUE, Integer.MIN_VALUE}) {
            check.due("example(" + i + ") without one", y.example(i), -1);
        }
        PatternTrees z = set(check, "C;re;re;", "gr", "01");
        for (int i : new int[] {-1, 2, 3, 12, Integer.MAX_VALUE, Integer.MIN_VALUE}) {
            check.due("example(" + i + ")", z.example(i), -1);
            check.due("never(" + i + ")", z.never(i), -1);
        }
        // Runs, FAULTS and what is on the tape change nothing; another SET does.
        check.runs(z, "bl", 0, "-5 1");
        Check.give(z, "data").text();
        Check.give(z, "match");
        check.due("THE EXAMPLE stays", Check.example(z), "gr");
        check.due("never stays", Check.nevers(z), "01");
        z.text();
        Check.give(z, T + "match B;ff;").text();
        check.due("THE EXAMPLE of another SET", Check.example(z), "tt");
        check.due("never of another SET", Check.nevers(z), "0");
        Check.give(z, T + "match B;_;_;").text();
        check.due("no EXAMPLE of a third SET", Check.example(z) + z.misses(), "0");
        check.due("never of a third SET", Check.nevers(z), "01");
        manySets(check);
    }

    /** One object, and SETS that ask for more than 60 PLACES and at more than 60 pats, all taken together. */
    private static void manySets(Check check) {
        PatternTrees x = new PatternTrees();
        String three = "(no(no le le le)(no le le le)(no le le le))";
        String[] rows = {"T T;" + three + three + ";", "I I I T;_ _ _(no" + three + "_ _);", "T T;_(no" + three + three + "_);",
            "T;(no _ _(no _ _" + three + "));", "T I;(no _" + three + "_)5;", "I T;3 le;_(no _ _ le);"};
        String[] due = {"le _", "_ _ _ le", "_ le", "le", "le _", "3 (no _ _ (no _ _ _))"};
        for (int i = 0; i < rows.length; i++) {
            check.due("text() of SET " + i, Check.give(x, "data T=le|no T T T;match " + rows[i]).text() > 0 ? 1 : 0, 1);
            check.due("THE EXAMPLE of SET " + i, Check.example(x), due[i]);
            check.due("never(0) of SET " + i, x.never(0), 0);
        }
        check.due("never(1) of the last SET", x.never(1), 0);
    }
}
