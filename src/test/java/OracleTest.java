import java.util.ArrayList;
import java.util.List;
import java.util.Random;
import java.util.TreeSet;

/**
 * Random SETS against the document's words taken literally: values are trees, MISSED and NEVER are
 * found by going through all values that the pats can tell apart, THE EXAMPLE by growing trees.
 */
public final class OracleTest {
    private static final String LETTERS = "ABCDEF";
    private static final int MOST_CASES = 20000;

    private record Con(String name, Data type, List<Data> args) { }

    private static final class Data {
        final String letter;
        boolean isNew;
        final List<Con> cons = new ArrayList<>();

        Data(String letter) {
            this.letter = letter;
        }

        boolean isNumbers() {
            return letter.equals("I");
        }
    }

    /** kind: _ ~ ! @ for pats, ? for values, # NUMBER, c CON, and * in cases for any value. */
    private record Term(char kind, int number, Con con, List<Term> inner) { }

    private record Row(List<Term> pats, boolean guarded) { }

    /** A value that grows while THE EXAMPLE is looked for; a CON of a new TYPE is there from the start. */
    private static final class Grown {
        final Data type;
        Con con = null;
        int number = -1;
        List<Grown> inner = new ArrayList<>();

        Grown(Data type) {
            this.type = type;
        }

        Grown solid(int depth) {
            if (!type.isNew || depth > 8) {
                return this;
            }
            if (inner.isEmpty()) {
                inner.add(new Grown(type.cons.get(0).args().get(0)));
            }
            return inner.get(0).solid(depth + 1);
        }

        boolean isOpen() {
            return con == null && number < 0;
        }

        String write() {
            if (type.isNew) {
                String behind = inner.isEmpty() ? "_" : inner.get(0).write();
                return behind.equals("_") ? "_" : "(" + type.cons.get(0).name() + " " + behind + ")";
            }
            if (isOpen()) {
                return "_";
            }
            if (number >= 0) {
                return "" + number;
            }
            StringBuilder text = new StringBuilder(con.name());
            inner.forEach(v -> text.append(' ').append(v.write()));
            return inner.isEmpty() ? text.toString() : "(" + text + ")";
        }
    }

    private static final class Stop extends RuntimeException {
        private static final long serialVersionUID = 1L;
    }

    private final Random random;
    private final Data numbers = new Data("I");
    private final List<Data> types = new ArrayList<>();
    private final List<Data> columns = new ArrayList<>();
    private final List<Row> rows = new ArrayList<>();
    private final List<Integer> looked = new ArrayList<>();
    private int pats;
    private int conCount;

    private OracleTest(long seed) {
        random = new Random(seed);
    }

    public static void main(String[] args) {
        int sets = args.length > 0 ? Integer.parseInt(args[0]) : 6000;
        Check check = new Check();
        int counted = 0;
        int missing = 0;
        PatternTrees x = new PatternTrees();
        for (int seed = 0; seed < sets; seed++) {
            OracleTest oracle = new OracleTest(seed);
            oracle.makeSet();
            // An object is used for two SETS, as nothing of the one before may be left.
            x = Check.give(seed % 2 == 0 ? new PatternTrees() : x, oracle.writeSet());
            check.due("seed " + seed + " text() of " + oracle.writeSet(), x.text(), oracle.rows.size());
            check.due("seed " + seed + " told(4)", x.told(4), oracle.pats);
            check.due("seed " + seed + " told(1)", x.told(1), oracle.conCount);
            String example = oracle.example();
            check.due("seed " + seed + " example", Check.example(x), example);
            check.due("seed " + seed + " misses", x.misses(), example.isEmpty() ? 0 : 1);
            missing += example.isEmpty() ? 0 : 1;
            counted += oracle.checkCases(check, x, seed) ? 1 : 0;
            for (int i = 0; i < 8; i++) {
                oracle.checkRun(check, x, seed);
            }
        }
        System.out.println(sets + " SETS, " + counted + " with all cases, " + missing + " that miss something");
        check.end();
    }

    // ---- making SETS and values

    private int below(int n) {
        return random.nextInt(n);
    }

    private void makeSet() {
        int many = 1 + below(6);
        for (int i = 0; i < many; i++) {
            types.add(new Data(LETTERS.substring(i, i + 1)));
        }
        for (Data type : types) {
            type.isNew = below(4) == 0;
            int cons = type.isNew ? 1 : 1 + below(below(3) == 0 ? 6 : 3);
            for (int c = 0; c < cons; c++) {
                List<Data> args = new ArrayList<>();
                int arity = type.isNew ? 1 : below(below(2) == 0 ? 4 : 2);
                for (int a = 0; a < arity; a++) {
                    args.add(anyType());
                }
                type.cons.add(new Con(conName(), type, args));
                conCount++;
            }
        }
        int width = 1 + below(below(2) == 0 ? 4 : 2);
        for (int i = 0; i < width; i++) {
            columns.add(anyType());
        }
        makeRows();
    }

    private Data anyType() {
        return below(5) == 0 ? numbers : types.get(below(types.size()));
    }

    private String conName() {
        String name = "" + (char) ('a' + conCount % 26) + (char) ('a' + conCount / 26);
        int more = below(4) == 0 ? below(7) : 0;
        return name + "zyxwvuts".substring(0, more);
    }

    private void makeRows() {
        int most = 1 + below(12);
        int wild = 1 + below(4);
        for (int r = 0; r < most; r++) {
            List<Term> row = new ArrayList<>();
            int before = pats;
            for (Data column : columns) {
                row.add(makePat(column, 1, wild));
            }
            if (pats > 60) {
                pats = before;
                break;
            }
            rows.add(new Row(row, below(5) == 0));
        }
        if (rows.isEmpty()) {
            List<Term> row = new ArrayList<>();
            columns.forEach(c -> row.add(new Term('_', 0, null, List.of())));
            pats += row.size();
            rows.add(new Row(row, false));
        }
    }

    private Term makePat(Data type, int depth, int wild) {
        pats++;
        int what = below(12);
        if (what == 0 && depth < 6) {
            return new Term('~', 0, null, List.of(makePat(type, depth + 1, wild)));
        }
        if (what == 1 && depth < 6) {
            return new Term('!', 0, null, List.of(makePat(type, depth + 1, wild)));
        }
        if (what == 2 && depth < 6) {
            return new Term('@', 0, null, List.of(makePat(type, depth + 1, wild)));
        }
        if (what < 4 + wild) {
            return new Term('_', 0, null, List.of());
        }
        return makeSolid(type, depth, wild, false);
    }

    private Term makeSolid(Data type, int depth, int wild, boolean asValue) {
        if (type.isNumbers()) {
            return new Term('#', below(20) == 0 ? below(1000) : below(4), null, List.of());
        }
        Con con = type.cons.get(below(type.cons.size()));
        if (!con.args().isEmpty() && depth >= 6) {
            return new Term(asValue ? '?' : '_', 0, null, List.of());
        }
        List<Term> inner = new ArrayList<>();
        for (Data arg : con.args()) {
            inner.add(asValue ? makeValue(arg, depth + 1) : makePat(arg, depth + 1, wild));
        }
        return new Term('c', 0, con, inner);
    }

    private Term makeValue(Data type, int depth) {
        return below(depth + 8) > 9 || below(8) == 0 ? new Term('?', 0, null, List.of()) : makeSolid(type, depth, 0, true);
    }

    /** A value that a pat is likely to match, so that runs go behind the first PLACE. */
    private Term valueLike(Term pat, Data type, int depth) {
        if (below(10) == 0 || pat.kind() == '_' || pat.kind() == '~') {
            return makeValue(type, depth);
        }
        if (pat.kind() == '!' || pat.kind() == '@') {
            return valueLike(pat.inner().get(0), type, depth);
        }
        if (pat.kind() == '#') {
            return pat;
        }
        List<Term> inner = new ArrayList<>();
        for (int i = 0; i < pat.inner().size(); i++) {
            inner.add(valueLike(pat.inner().get(i), pat.con().args().get(i), depth + 1));
        }
        return new Term('c', 0, pat.con(), inner);
    }

    private static int size(Term term) {
        int sum = 1;
        for (Term inner : term.inner()) {
            sum += size(inner);
        }
        return sum;
    }

    // ---- writing

    private String writeSet() {
        StringBuilder text = new StringBuilder();
        for (Data type : types) {
            text.append(type.isNew ? "new " : "data ").append(type.letter);
            String before = "=";
            for (Con con : type.cons) {
                text.append(before).append(con.name());
                con.args().forEach(a -> text.append(' ').append(a.letter));
                before = "|";
            }
            text.append(';');
        }
        text.append("match");
        columns.forEach(c -> text.append(' ').append(c.letter));
        text.append(';');
        for (Row row : rows) {
            text.append(writeTerms(row.pats())).append(row.guarded() ? " when;" : ";");
        }
        return text.toString();
    }

    private static String writeTerms(List<Term> terms) {
        StringBuilder text = new StringBuilder();
        for (Term term : terms) {
            text.append(text.length() == 0 ? "" : " ").append(write(term));
        }
        return text.toString();
    }

    private static String write(Term term) {
        switch (term.kind()) {
            case '#':
                return "" + term.number();
            case 'c':
                return term.inner().isEmpty() ? term.con().name()
                        : "(" + term.con().name() + " " + writeTerms(term.inner()) + ")";
            case '@':
                return "v@" + writeTerms(term.inner());
            default:
                return term.kind() + writeTerms(term.inner());
        }
    }

    // ---- TRYING

    private void checkRun(Check check, PatternTrees x, int seed) {
        Row like = rows.get(below(rows.size()));
        List<Term> values = new ArrayList<>();
        int total = 0;
        for (int c = 0; c < columns.size(); c++) {
            Term value = below(3) == 0 ? makeValue(columns.get(c), 1) : valueLike(like.pats().get(c), columns.get(c), 1);
            values.add(value);
            total += size(value);
        }
        String text = writeTerms(values);
        if (total > 60 || text.length() > 1180) {
            return;
        }
        int guards = below(2) == 0 ? 0 : random.nextInt();
        looked.clear();
        int due = tryRows(values, guards);
        StringBuilder line = new StringBuilder().append(due);
        looked.forEach(p -> line.append(' ').append(p));
        int got = Check.give(x, text).run(guards);
        check.due("seed " + seed + " run(" + guards + ") of " + text, got + Check.looks(x), line.toString());
    }

    private int tryRows(List<Term> values, int guards) {
        for (int r = 0; r < rows.size(); r++) {
            boolean matches = true;
            for (int c = 0; c < columns.size() && matches; c++) {
                try {
                    matches = tryPat(rows.get(r).pats().get(c), values.get(c), c + 1);
                } catch (Stop undefined) {
                    return -6;
                }
            }
            if (matches && (!rows.get(r).guarded() || (guards & 1 << r) != 0)) {
                return r;
            }
        }
        return -5;
    }

    private boolean tryPat(Term pat, Term value, int place) {
        switch (pat.kind()) {
            case '_':
            case '~':
                return true;
            case '@':
                return tryPat(pat.inner().get(0), value, place);
            case '!':
                look(value, place);
                return tryPat(pat.inner().get(0), value, place);
            case '#':
                return look(value, place).number() == pat.number();
            default:
                break;
        }
        if (pat.con().type().isNew) {
            return tryPat(pat.inner().get(0), value.kind() == '?' ? value : value.inner().get(0), place);
        }
        Term seen = look(value, place);
        if (seen.con() != pat.con()) {
            return false;
        }
        for (int i = 0; i < pat.inner().size(); i++) {
            if (!tryPat(pat.inner().get(i), seen.inner().get(i), 4 * place + i + 1)) {
                return false;
            }
        }
        return true;
    }

    private Term look(Term value, int place) {
        Term seen = value;
        while (seen.kind() == 'c' && seen.con().type().isNew) {
            seen = seen.inner().get(0);
        }
        if (!looked.contains(place)) {
            looked.add(place);
        }
        if (seen.kind() == '?') {
            throw new Stop();
        }
        return seen;
    }

    // ---- MISSED and NEVER, by all cases

    private boolean checkCases(Check check, PatternTrees x, int seed) {
        List<List<Term>> all = new ArrayList<>();
        all.add(List.of());
        try {
            for (int c = 0; c < columns.size(); c++) {
                List<Term> here = new ArrayList<>();
                for (Row row : rows) {
                    here.add(row.pats().get(c));
                }
                all = product(all, cases(columns.get(c), here));
            }
        } catch (Stop tooMany) {
            return false;
        }
        boolean missed = false;
        boolean[] taken = new boolean[rows.size()];
        for (List<Term> values : all) {
            boolean open = true;
            for (int r = 0; r < rows.size() && open; r++) {
                boolean matches = matchAll(rows.get(r).pats(), values);
                taken[r] = taken[r] || matches;
                open = !matches || rows.get(r).guarded();
            }
            missed = missed || open;
        }
        check.due("seed " + seed + " misses by cases", x.misses(), missed ? 1 : 0);
        for (int r = 0; r < rows.size(); r++) {
            check.due("seed " + seed + " never(" + r + ") of " + writeSet(), x.never(r), taken[r] ? 0 : 1);
        }
        return true;
    }

    private static List<List<Term>> product(List<List<Term>> heads, List<Term> lasts) {
        if ((long) heads.size() * lasts.size() > MOST_CASES) {
            throw new Stop();
        }
        List<List<Term>> all = new ArrayList<>();
        for (List<Term> head : heads) {
            for (Term last : lasts) {
                List<Term> both = new ArrayList<>(head);
                both.add(last);
                all.add(both);
            }
        }
        return all;
    }

    /** Values of a TYPE of which some stands for each one that these pats can tell apart. */
    private List<Term> cases(Data type, List<Term> here) {
        List<Term> asking = new ArrayList<>();
        for (Term pat : here) {
            Term core = pat;
            while (core.kind() == '!' || core.kind() == '@') {
                core = core.inner().get(0);
            }
            if (core.kind() == '#' || core.kind() == 'c') {
                asking.add(core);
            }
        }
        List<Term> all = new ArrayList<>();
        if (asking.isEmpty()) {
            all.add(new Term('*', 0, null, List.of()));
        } else if (type.isNumbers()) {
            TreeSet<Integer> some = new TreeSet<>();
            asking.forEach(p -> some.add(p.number()));
            int other = 999;
            while (some.contains(other)) {
                other--;
            }
            some.add(other);
            some.forEach(n -> all.add(new Term('#', n, null, List.of())));
        } else {
            for (Con con : type.cons) {
                List<List<Term>> inner = new ArrayList<>();
                inner.add(List.of());
                for (int i = 0; i < con.args().size(); i++) {
                    List<Term> parts = new ArrayList<>();
                    for (Term pat : asking) {
                        if (pat.con() == con) {
                            parts.add(pat.inner().get(i));
                        }
                    }
                    inner = product(inner, cases(con.args().get(i), parts));
                }
                inner.forEach(list -> all.add(new Term('c', 0, con, list)));
            }
        }
        return all;
    }

    private static boolean matchAll(List<Term> some, List<Term> values) {
        for (int i = 0; i < some.size(); i++) {
            if (!match(some.get(i), values.get(i))) {
                return false;
            }
        }
        return true;
    }

    private static boolean match(Term pat, Term value) {
        switch (pat.kind()) {
            case '_':
            case '~':
                return true;
            case '!':
            case '@':
                return match(pat.inner().get(0), value);
            case '#':
                return pat.number() == value.number();
            default:
                return pat.con() == value.con() && matchAll(pat.inner(), value.inner());
        }
    }

    // ---- THE EXAMPLE, by growing trees

    private String example() {
        List<Grown> grown = new ArrayList<>();
        columns.forEach(c -> grown.add(new Grown(c)));
        List<Row> left = new ArrayList<>(rows);
        left.removeIf(Row::guarded);
        if (!grow(grown, left)) {
            return "";
        }
        List<String> parts = new ArrayList<>();
        grown.forEach(g -> parts.add(g.write()));
        return String.join(" ", parts);
    }

    private boolean grow(List<Grown> grown, List<Row> left) {
        if (left.isEmpty()) {
            return true;
        }
        Grown open = firstOpen(left.get(0).pats(), grown);
        if (open == null) {
            return false;
        }
        if (open.type.isNumbers()) {
            TreeSet<Integer> asked = new TreeSet<>();
            left.forEach(row -> numbersAt(row.pats(), grown, open, asked));
            List<Integer> tries = new ArrayList<>(asked);
            int least = 0;
            while (asked.contains(least)) {
                least++;
            }
            tries.add(least);
            for (int number : tries) {
                open.number = number;
                if (grow(grown, stillLeft(left, grown))) {
                    return true;
                }
            }
            open.number = -1;
            return false;
        }
        for (Con con : open.type.cons) {
            open.con = con;
            open.inner = new ArrayList<>();
            con.args().forEach(a -> open.inner.add(new Grown(a)));
            if (grow(grown, stillLeft(left, grown))) {
                return true;
            }
        }
        open.con = null;
        open.inner = new ArrayList<>();
        return false;
    }

    private static List<Row> stillLeft(List<Row> left, List<Grown> grown) {
        List<Row> still = new ArrayList<>(left);
        still.removeIf(row -> !could(row.pats(), grown));
        return still;
    }

    private static Term core(Term pat) {
        Term inner = pat;
        while (inner.kind() == '!' || inner.kind() == '@' || inner.kind() == 'c' && inner.con().type().isNew) {
            inner = inner.inner().get(0);
        }
        return inner;
    }

    private static boolean could(List<Term> some, List<Grown> grown) {
        for (int i = 0; i < some.size(); i++) {
            Term pat = core(some.get(i));
            Grown value = grown.get(i).solid(0);
            if (pat.kind() == '#' && value.number >= 0 && value.number != pat.number()) {
                return false;
            }
            if (pat.kind() == 'c' && value.con != null
                    && (value.con != pat.con() || !could(pat.inner(), value.inner))) {
                return false;
            }
        }
        return true;
    }

    private static Grown firstOpen(List<Term> some, List<Grown> grown) {
        for (int i = 0; i < some.size(); i++) {
            Term pat = core(some.get(i));
            Grown value = grown.get(i).solid(0);
            if (pat.kind() == '#' || pat.kind() == 'c') {
                if (value.isOpen()) {
                    return value;
                }
                Grown behind = pat.kind() == 'c' ? firstOpen(pat.inner(), value.inner) : null;
                if (behind != null) {
                    return behind;
                }
            }
        }
        return null;
    }

    private static void numbersAt(List<Term> some, List<Grown> grown, Grown open, TreeSet<Integer> asked) {
        for (int i = 0; i < some.size(); i++) {
            Term pat = core(some.get(i));
            Grown value = grown.get(i).solid(0);
            if (pat.kind() == '#' && value == open) {
                asked.add(pat.number());
            }
            if (pat.kind() == 'c' && value.con == pat.con()) {
                numbersAt(pat.inner(), value.inner, open, asked);
            }
        }
    }
}
