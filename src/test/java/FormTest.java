/** Promises 4 and 5: text and place, what is well formed and FAULTS of the form. */
public final class FormTest {
    private static final String B = "data B=tt|ff;";
    private static final String N = "data N=ze|su N;match N;";

    public static void main(String[] args) {
        Check check = new Check();
        goodTexts(check);
        tokens(check);
        types(check);
        columns(check);
        rows(check);
        pats(check);
        counts(check);
        formFirst(check);
        check.end();
    }

    private static void good(Check check, String text, int rows) {
        check.good(text, rows);
    }

    private static void goodTexts(Check check) {
        good(check, B + "match B;tt;", 1);
        good(check, B + "match B;tt when;ff when;_;", 3);
        good(check, " \n data\nB = tt | ff ;\nmatch B ; tt ;\n\n", 1);
        good(check, B + "match I I B B;0 999x tt;1n@2~_!y;", 2);
        good(check, "data Z=abcdefgh I Z Z|bb;new A=mk Z;match A;(mk(abcdefgh 12x@bb!_));", 1);
        // A TYPE may be told behind its uses.
        good(check, "data A=aa B|ab;new B=ba C;data C=ca;match A;(aa(ba ca));", 1);
        good(check, "data B=dat|datas|whe|whens;match B;dat;datas;whe when;whens;", 4);
        good(check, "data B=xata|ew|xew|xatch|xhen|matcx;match B;xata;ew;xew;xatch;xhen;matcx;", 6);
    }

    private static void tokens(Check check) {
        check.faulty("", -2, 0);
        check.faulty(" \n ", -2, 3);
        check.faultyAt("`\tdata B=tt;match B;tt;", -2);
        check.faultyAt("data B=tt;`\rmatch B;tt;", -2);
        check.faultyAt("data B=tt;match B;`.;", -2);
        check.faultyAt("data B=tt;match B;`?;", -2);
        check.faultyAt("data B=tt;match B;tt`\0;", -2);
        check.faultyAt("data B=tt;match B;`\u00e9;", -2);
        check.faultyAt("data `BB=tt;match B;tt;", -2);
        check.faultyAt("data `b=tt;match B;tt;", -2);
        check.faultyAt("data B=`t;match B;tt;", -2);
        check.faultyAt("data B=`abcdefghi;match B;tt;", -2);
        check.faultyAt("data B=`tT;match B;tt;", -2);
        check.faultyAt("`dataB=tt;match B;tt;", -2);
        check.faultyAt("`Data B=tt;match B;tt;", -2);
        check.faultyAt(B + "match I;`1000;", -2);
        check.faultyAt(B + "match I;`00;", -2);
        check.faultyAt(B + "match I;`01;", -2);
        check.faultyAt(B + "match I;9`-;", -2);
        // A row of digits ends where letters begin, and the other way round.
        good(check, B + "match I I I B;1x2tt;", 1);
        fullTape(check);
        check.faultyAt(B + "match B;`ttA;", -2);
    }

    /** A text that ends with the last byte that the tape can have. */
    private static void fullTape(Check check) {
        String text = B + "match I B;12 tt;";
        String blanks = " ".repeat(1200 - text.length());
        good(check, text + blanks, 1);
        good(check, blanks + text, 1);
        check.faulty(blanks + B + "match I B;12  tt", -2, 1200);
        check.faulty(blanks + B + "match B I;tt  12", -2, 1200);
        check.faulty(";".repeat(1200), -2, 0);
        String open = B + "match I;";
        check.faulty(open + "9".repeat(1200 - open.length()), -2, open.length());
        check.faulty(open + "a".repeat(1200 - open.length()), -2, open.length());
        check.faulty(open + "_".repeat(1200 - open.length()), -2, open.length() + 60);
    }

    private static void types(Check check) {
        check.faultyAt("`match I;_;", -2);
        check.faultyAt("`tt", -2);
        check.faultyAt("data`", -2);
        check.faultyAt("data `match B;tt;", -2);
        check.faultyAt("data `data B=tt;match B;tt;", -2);
        check.faultyAt("data B `match B;tt;", -2);
        check.faultyAt("data B=tt `match B;tt;", -2);
        check.faultyAt("data B=tt `data C=cc;match B;tt;", -2);
        check.faultyAt("new B=tt `match B;tt;", -2);
        check.faultyAt("new B=tt I `match B;tt;", -2);
        check.faultyAt("data B=tt|`match B;tt;", -2);
        check.faultyAt("data B=aa|bb|cc|dd|ee|ff|`match B;aa;", -2);
        check.faultyAt("data `=tt;match B;tt;", -2);
        check.faultyAt("data B`;match B;tt;", -2);
        check.faultyAt("data B=`;match B;tt;", -2);
        check.faultyAt("data B=tt|`;match B;tt;", -2);
        check.faultyAt("data B=tt`,ff;match B;tt;", -2);
        check.faultyAt("data B=tt `ff;match B;tt;", -2);
        check.faultyAt("data B=tt I I I `I;match B;tt;", -2);
        check.faultyAt("data B=`data;match B;tt;", -2);
        check.faultyAt("data B=tt|`new;match B;tt;", -2);
        check.faultyAt("data B=`match;match B;tt;", -2);
        check.faultyAt("data B=`when;match B;tt;", -2);
        check.faultyAt("new B=tt`;match B;tt;", -2);
        check.faultyAt("new B=tt I `I;match B;tt;", -2);
        check.faultyAt("new B=tt I`|ff I;match B;tt;", -2);
        good(check, "data B=aa|bb|cc|dd|ee|ff;match B;aa;", 1);
        check.faultyAt("data B=aa|bb|cc|dd|ee|ff|`gg;match B;aa;", -2);
        check.faultyAt("data B=aa|bb|cc|dd|ee|ff|`;match B;aa;", -2);
        String six = "data A=aa;new B=bb I;data C=cc;data D=dd;new E=ee A;data F=ff;";
        good(check, six + "match A;aa;", 1);
        check.faultyAt(six + "data `G=gg;match A;aa;", -2);
        check.faultyAt(six + "new `G=gg I;match A;aa;", -2);
        check.faultyAt(six + "data `A", -2);
        check.faultyAt(six + "`;match A;aa;", -2);
        check.faultyAt(B + "`;match A;aa;", -2);
        check.faultyAt(B + "`", -2);
    }

    private static void columns(Check check) {
        check.faultyAt(B + "match`;tt;", -2);
        check.faultyAt(B + "match `tt;tt;", -2);
        good(check, B + "match B B B B;tt tt tt tt;", 1);
        check.faultyAt(B + "match B B B B `B;tt;", -2);
        check.faultyAt(B + "match B`", -2);
        check.faultyAt(B + "match B `tt;", -2);
    }

    private static void rows(Check check) {
        check.faultyAt(B + "match B;`", -2);
        check.faultyAt(B + "match B; \n `", -2);
        check.faultyAt(B + "match B;`;", -2);
        check.faultyAt(B + "match B;tt;`;", -2);
        check.faultyAt(B + "match B;`when;", -2);
        check.faultyAt(B + "match B;tt when`", -2);
        check.faultyAt(B + "match B;tt when `when;", -2);
        check.faultyAt(B + "match B;tt when `tt;", -2);
        check.faultyAt(B + "match B;tt`", -2);
        check.faultyAt(B + "match B;tt `match;", -2);
        check.faultyAt(B + "match B;tt;`data C=cc;", -2);
        good(check, B + "match B;" + Check.times("tt;", 12), 12);
        check.faultyAt(B + "match B;" + Check.times("tt;", 12) + "`tt;", -2);
        check.faultyAt(B + "match B;" + Check.times("tt;", 12) + " `;", -2);
    }

    private static void pats(Check check) {
        check.faultyAt(B + "match B;`B;", -2);
        check.faultyAt(B + "match B;`=;", -2);
        check.faultyAt(B + "match B;`|;", -2);
        check.faultyAt(B + "match B;`@tt;", -2);
        check.faultyAt(B + "match B;`);", -2);
        check.faultyAt(B + "match B;tt`);", -2);
        check.faultyAt(B + "match B;tt`@tt;", -2);
        check.faultyAt(B + "match B;_`@tt;", -2);
        check.faultyAt(B + "match B;x@`;", -2);
        check.faultyAt(B + "match B;~`;", -2);
        check.faultyAt(B + "match B;!`when;", -2);
        check.faultyAt(B + "match B;(`);", -2);
        check.faultyAt(B + "match B;(`x);", -2);
        check.faultyAt(B + "match B;(`1);", -2);
        check.faultyAt(B + "match B;(`(tt));", -2);
        check.faultyAt(B + "match B;(`when x);", -2);
        check.faultyAt(B + "match B;(tt`);", -2);
        check.faultyAt(B + "match B;(tt x`;", -2);
        check.faultyAt(B + "match B;(tt x `when;", -2);
        check.faultyAt(B + "match B;(tt x`", -2);
        check.faultyAt(B + "match B;x`=;", -2);
    }

    private static void counts(Check check) {
        good(check, N + "(su(su(su(su(su ze)))));", 1);
        check.faultyAt(N + "(su(su(su(su(su(su `ze))))));", -2);
        check.faultyAt(N + "(su(su(su(su(su(su `(su ze)))))));", -2);
        good(check, N + "~!x@~!_;", 1);
        check.faultyAt(N + "~!x@~!y@`_;", -2);
        check.faultyAt(N + "~!x@~!(su `_);", -2);
        check.faultyAt(N + "~~~~~~`~_;", -2);
        // Eight ROWS of 7 pats are 56.
        String many = B + "match I I I I;" + Check.times("~_!x z@1 _;", 8);
        good(check, many + "0 1 2 3;", 9);
        check.due("told(4) of 60 pats", check.set(many + "0 1 2 3;").told(4), 60);
        check.faultyAt(many + "0 1 2 3;`_;", -2);
        check.faultyAt(many + "0 1 2 x@`3;", -2);
        check.faultyAt(many + "0 1 2~`3;", -2);
        check.faultyAt(many + "0 1 2(tt `3);", -2);
        check.faultyAt(many + "0 1 2 3`(tt 3);", -2);
    }

    private static void formFirst(Check check) {
        // A FAULT of meaning ahead of one of the form is not THE FAULT.
        check.faultyAt("data I=tt;match Q;tt`", -2);
        check.faultyAt("data B=tt|tt;match B;qq `);", -2);
        PatternTrees x = check.set(B + "match B;tt;");
        Check.give(x, "data B=").text();
        check.due("the SET before stays", x.told(1), 2);
        check.due("place", x.place(), 7);
        Check.give(x, B + "match B;tt;ff;");
        check.due("another SET", x.text(), 2);
        check.due("place without a FAULT", x.place(), -1);
    }
}
