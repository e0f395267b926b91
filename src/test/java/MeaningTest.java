/** Promises 4, 5 and 6: FAULTS of meaning, and told. */
public final class MeaningTest {
    private static final String T = "data B=tt|ff;data L=nn|co I L;new W=mk L;";

    public static void main(String[] args) {
        Check check = new Check();
        types(check);
        pats(check);
        numbersOfPats(check);
        firstInTheText(check);
        told(check);
        check.end();
    }

    private static void types(Check check) {
        check.faultyAt("data `I=tt;match B;tt;", -3);
        check.faultyAt("new `I=tt I;match I;_;", -3);
        check.faultyAt("data B=tt;data `B=ff;match B;tt;", -3);
        check.faultyAt("data B=tt;new `B=ff I;match B;tt;", -3);
        check.faultyAt("data B=tt|`tt;match B;tt;", -3);
        check.faultyAt("data B=tt;data C=ff|`tt;match B;tt;", -3);
        check.faultyAt("data B=tt;new C=`tt B;match B;tt;", -3);
        check.faultyAt("data B=tt I `Q;match B;_;", -3);
        check.faultyAt("new B=tt `Q;match B;_;", -3);
        check.faultyAt("data B=tt;match B `C;_ _;", -3);
        check.faultyAt("data B=tt;match `J;_;", -3);
    }

    private static void pats(Check check) {
        check.faultyAt(T + "match B;`xx;", -3);
        check.faultyAt(T + "match B;(`xx _);", -3);
        check.faultyAt(T + "match B;`nn;", -3);
        check.faultyAt(T + "match I;`tt;", -3);
        check.faultyAt(T + "match L;`tt;", -3);
        check.faultyAt(T + "match L;(`mk nn);", -3);
        check.faultyAt(T + "match W;`nn;", -3);
        check.faultyAt(T + "match W;(mk `tt);", -3);
        check.faultyAt(T + "match B;`1;", -3);
        check.faultyAt(T + "match L;(co `nn _);", -3);
        check.faultyAt(T + "match L;(co _ `0);", -3);
        check.faultyAt(T + "match L;`co;", -3);
        check.faultyAt(T + "match W;`mk;", -3);
        check.faultyAt(T + "match L;(co _ `co);", -3);
        check.faultyAt(T + "match B;~`nn;", -3);
        check.faultyAt(T + "match B;!`nn;", -3);
        check.faultyAt(T + "match B;x@`nn;", -3);
        check.faultyAt(T + "match B;~!x@`7;", -3);
    }

    private static void numbersOfPats(Check check) {
        check.faultyAt(T + "match L;(co _`);", -3);
        check.faultyAt(T + "match L;(co _ _ `_);", -3);
        check.faultyAt(T + "match L;(co _ _ `(co _));", -3);
        check.faultyAt(T + "match L;(co _ _ `~tt);", -3);
        check.faultyAt(T + "match L;(nn `_);", -3);
        check.faultyAt(T + "match W;(mk _ `_);", -3);
        check.faultyAt(T + "match B B;tt`;", -3);
        check.faultyAt(T + "match B B;tt `when;", -3);
        check.faultyAt(T + "match B B;tt tt `tt;", -3);
        check.faultyAt(T + "match B B;tt tt `x@tt tt when;", -3);
        check.faultyAt(T + "match B;tt `(co _ _);", -3);
        check.faultyAt(T + "match B B;_ _;_ _;_`;_ _;", -3);
    }

    private static void firstInTheText(Check check) {
        check.faultyAt("data B=tt `Q|tt;data B=uu;match B;_;", -3);
        check.faultyAt("data B=tt I|`tt Q;data B=uu;match B;_;", -3);
        check.faultyAt("data B=tt B|uu;data `B=uu Q;match R;vv;", -3);
        check.faultyAt("data B=tt;match `R Q;vv;", -3);
        check.faultyAt(T + "match L L;(co `tt) 1;", -3);
        check.faultyAt(T + "match L L;(co _`) 1;", -3);
        check.faultyAt(T + "match L L;(`xx tt 1 2) 1;", -3);
        check.faultyAt(T + "match L L;(co _ nn) `1 _;xx;", -3);
        PatternTrees x = check.set(T + "match B;tt;");
        Check.give(x, T + "match B;nn;");
        check.due("text of another SET", x.text(), -3);
        check.due("the SET before stays", Check.example(x), "ff");
        check.due("the tape is empty", x.feed(0, 0, 0, 0, 0), 20);
        check.due("place stays till the next text()", x.place(), T.length() + 8);
        x.end(0);
        check.due("a CON of a SET before is not told", anew(x, "data Q=qq;match Q;qq;tt;"), -3);
        check.due("a SET", anew(x, "data Q=qq;match Q;qq;"), 1);
        check.due("a CON of the SET before", anew(x, "data R=rr;match R;qq;"), -3);
        check.due("a TYPE of the SET before", anew(x, "data R=rr Q;match R;_;"), -3);
        check.due("a CON of a SET longer ago", anew(x, "data R=rr;match R;ff;"), -3);
        anew(x, T + "match B;nn;");
        x.run(0);
        check.due("place stays with a FAULT of run()", x.place(), T.length() + 8);
    }

    private static int anew(PatternTrees x, String text) {
        return Check.give(x, text).text();
    }

    private static void told(Check check) {
        PatternTrees x = check.set(T + "match W L;(mk n@nn)~(co 1 _);!x (co _ y) when;_ _;");
        check.due("told(0)", x.told(0), 3);
        check.due("told(1)", x.told(1), 5);
        check.due("told(2)", x.told(2), 2);
        check.due("told(3)", x.told(3), 3);
        check.due("told(4)", x.told(4), 14);
        check.due("told(5)", x.told(5), -1);
        check.due("told(-1)", x.told(-1), -1);
        check.due("told(greatest)", x.told(Integer.MAX_VALUE), -1);
        check.due("told(least)", x.told(Integer.MIN_VALUE), -1);
        Check.give(x, "data Q=qq;match Q;qq;").text();
        String all = "" + x.told(0) + x.told(1) + x.told(2) + x.told(3) + x.told(4);
        check.due("told of another SET", all, "11111");
        Check.give(x, "data").text();
        check.due("told with a FAULT", x.told(3), 1);
    }
}
