/** Promises 10, 11 and 12: misses, example, never. */
public final class MissesTest {
    private static final String T = "data B=tt|ff;data L=nn|co I L;data C=re|gr|bl;data P=pa B C;";
    private static final String NEWS = "new W=mk I;new V=wr W;new R=rr R;data Q=qq V W|qz;new U=un B;data B=tt|ff;";

    public static void main(String[] args) {
        Check check = new Check();
        examples(check);
        orders(check);
        numbers(check);
        newTypes(check);
        nevers(check);
        sixty(check);
        states(check);
        check.end();
    }

    /** An empty example stands for none. */
    private static void set(Check check, String text, String example, String nevers) {
        PatternTrees x = check.set(text);
        check.due("misses() of " + text, x.misses(), example.isEmpty() ? 0 : 1);
        check.due("THE EXAMPLE of " + text, Check.example(x), example);
        check.due("never of " + text, Check.nevers(x), nevers);
        check.due("THE EXAMPLE anew of " + text, Check.example(x), example);
    }

    private static void examples(Check check) {
        set(check, T + "match B;tt;", "ff", "0");
        set(check, T + "match B;ff;", "tt", "0");
        set(check, T + "match B;tt;ff;", "", "00");
        set(check, T + "match B;_;", "", "0");
        set(check, T + "match B;~tt;", "", "0");
        set(check, T + "match B;!x;", "", "0");
        set(check, T + "match B;!x@tt;", "ff", "0");
        set(check, T + "match B;_ when;", "_", "0");
        set(check, T + "match B L;_ _ when;", "_ _", "0");
        set(check, T + "match B L;_ nn;", "_ (co _ _)", "0");
        set(check, T + "match L;nn;(co _ nn);", "(co _ (co _ _))", "00");
        set(check, T + "match L;nn;(co 0(co _ _));", "(co 0 nn)", "00");
        set(check, T + "match L B;nn _;(co _(co 0(co _ _)))_;", "(co _ nn) _", "00");
        set(check, T + "match P;(pa tt _);(pa _ gr);", "(pa ff re)", "00");
        set(check, T + "match P P;(pa tt _)_;_(pa _ gr);", "(pa ff _) (pa _ re)", "00");
    }

    private static void orders(Check check) {
        // The first ROW that is left asks, and a CON's own PLACE comes ahead of those behind it.
        set(check, T + "match B B;_ ff;ff _;", "tt tt", "00");
        set(check, T + "match C B;gr _;re tt;bl _;", "re ff", "000");
        set(check, T + "match C C;_ gr;re _;", "gr re", "00");
        set(check, T + "match C C;bl gr;_ _ when;re re;", "re gr", "000");
        // By the CON re all ROWS but the last are gone, which asks at the second COLUMN.
        set(check, T + "match C C;gr _;_ re;", "re gr", "00");
        set(check, T + "match P;(pa ff gr);(pa tt bl);", "(pa tt re)", "00");
        set(check, T + "match B C;tt _;ff ~gr;", "", "00");
        set(check, T + "match L L;(co _ nn)_;_(co 1 _);", "nn nn", "00");
    }

    private static void numbers(Check check) {
        set(check, T + "match I;0;", "1", "0");
        set(check, T + "match I;1;", "0", "0");
        set(check, T + "match I;1;0;3;2;", "4", "0000");
        set(check, T + "match I;999;7;", "0", "00");
        set(check, T + "match I;10;_;11;", "", "001");
        set(check, T + "match I B;5 _;3 tt;0 _;", "3 ff", "000");
        set(check, T + "match I B;5 _;3 ~tt;0 _;", "1 _", "000");
        set(check, T + "match I B;9 tt;3 _;_ ff;", "0 tt", "000");
        set(check, T + "match I B;9 tt;_ ff;3 _;", "0 tt", "000");
        // 3 is asked for, and comes ahead of 0, which is not.
        set(check, T + "match I B;9 tt;3 ff;_ ff;", "3 tt", "000");
        set(check, T + "match I I;9 123;45 6;_ 0;", "9 1", "000");
        set(check, T + "match I;0;1;2;3;4;5;6;7;8;9;10;11;", "12", "000000000000");
        // A NUMBER of a ROW that is gone is not asked for any more.
        set(check, T + "match B I;tt 0;ff 1;", "tt 1", "00");
        set(check, T + "match I;100;99;", "0", "00");
        for (int number : new int[] {0, 9, 10, 99, 100, 101, 110, 999}) {
            set(check, T + "match B I B;_ " + number + " tt;", "_ " + number + " ff", "0");
        }
        set(check, T + "match I I;789 _;789 456;", "0 _", "01");
    }

    private static void newTypes(Check check) {
        set(check, NEWS + "match V;(wr _);", "", "0");
        set(check, NEWS + "match V;(wr(mk 0));", "(wr (mk 1))", "0");
        set(check, NEWS + "match V W;(wr(mk 0))_;", "(wr (mk 1)) _", "0");
        set(check, NEWS + "match Q;qz;(qq _(mk 0));", "(qq _ (mk 1))", "00");
        set(check, NEWS + "match Q;qz;(qq x@(wr !(mk 5))~(mk 0));", "(qq (wr (mk 0)) _)", "00");
        set(check, NEWS + "match U;(un tt);(un _) when;(un ff);_;", "", "0001");
        set(check, NEWS + "match R;(rr(rr _));_;", "", "01");
        set(check, NEWS + "match R R;(rr(rr _)) _ when;", "_ _", "0");
        set(check, NEWS + "match U V;(un ff)_;", "(un tt) _", "0");
    }

    private static void nevers(Check check) {
        set(check, T + "match B;tt;tt;ff;_;", "", "0101");
        set(check, T + "match B;tt when;tt;ff;_ when;", "", "0001");
        set(check, T + "match B;_;tt when;", "", "01");
        set(check, T + "match B B;tt _;_ tt;ff ff;_ _;", "", "0001");
        set(check, T + "match B B;tt _;_ tt;tt tt;ff _;", "", "0010");
        set(check, T + "match C B;re tt;gr _;_ tt;bl tt;re ff;_ _;", "", "000100");
        set(check, T + "match C;~re;gr;", "", "01");
        set(check, T + "match C;!_;gr;", "", "01");
        set(check, T + "match L;(co 1 _);(co 1 nn);(co 2 nn);(co _(co _ _));(co 2(co 1 _));nn;", "(co 0 nn)", "010010");
        set(check, T + "match I;3;x;3;", "", "001");
        // A ROW without any CON of its own may have all its CONS taken away, one by one.
        set(check, T + "match C C;re _;gr _;bl re;bl gr;_ bl;_ x;", "", "000001");
        set(check, T + "match P;(pa tt _);(pa _ re);(pa ff gr);(pa ff bl);(pa _ x);", "", "00001");
    }

    /** All 60 pats ask, each for a CON that is the only one but for the last. */
    private static void sixty(Check check) {
        String types = "data U=uu;data A=aa U U U;data B=ba A A A;data C=ca B B B;data D=da U V;";
        String four = "(aa uu uu uu)";
        String thirteen = "(ba " + four + " " + four + " " + four + ")";
        String forty = "(ca " + thirteen + " " + thirteen + " " + thirteen + ")";
        String all = forty + " " + thirteen + " " + four + " (da uu va)";
        check.due("told(4)", check.set(types + "data V=va|vb;match C B A D;" + all + ";").told(4), 60);
        set(check, types + "data V=va|vb;match C B A D;" + all + ";", all.replace("va", "vb"), "0");
        set(check, types + "data V=va;match C B A D;" + all + ";", "", "0");
        // A long one, with much that is not asked for.
        set(check, "data T=abcdefgh T T T;data V=va|vb;match T V;" + deep(3) + " va;", deep(3) + " vb", "0");
    }

    private static String deep(int depth) {
        String inner = depth == 0 ? "_" : deep(depth - 1);
        return depth == 0 ? "_" : "(abcdefgh " + inner + " " + inner + " " + inner + ")";
    }

    private static void states(Check check) {
        PatternTrees x = check.set(T + "match B;tt;_;tt;");
        check.due("never(0)", x.never(0), 0);
        check.due("never(2)", x.never(2), 1);
        check.due("never(3)", x.never(3), -1);
        check.due("never(-1)", x.never(-1), -1);
        check.due("never(greatest)", x.never(Integer.MAX_VALUE), -1);
        check.due("never(least)", x.never(Integer.MIN_VALUE), -1);
        check.due("example(0)", x.example(0), -1);
        Check.give(x, T + "match B;tt;").text();
        check.due("misses of another SET", x.misses(), 1);
        check.due("example(0)", x.example(0), 'f');
        check.due("example(1)", x.example(1), 'f');
        check.due("example(2)", x.example(2), -1);
        check.due("example(-1)", x.example(-1), -1);
        check.due("example(greatest)", x.example(Integer.MAX_VALUE), -1);
        check.due("example(least)", x.example(Integer.MIN_VALUE), -1);
        Check.give(x, T + "match B;ff;zz;").text();
        check.due("example with a FAULT", Check.example(x), "ff");
        Check.give(x, T + "match B;x;").text();
        check.due("misses of a third SET", x.misses(), 0);
    }
}
