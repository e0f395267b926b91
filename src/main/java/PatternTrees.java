/**
 * Patterns of a lazy language: a SET of data types and rows of patterns is read from a tape, rows of
 * values are tried on it, and it is told what no row matches and which rows are never taken.
 */
public final class PatternTrees {
    public static final int NONE = -1;

    private static final int FORM_FAULT = -2;
    private static final int MEANING_FAULT = -3;
    private static final int FAILED = -5;
    private static final int UNDEFINED = -6;
    private static final int MATCHED = 0;

    private static final int MAX_TAPE = 1200;
    private static final int FEED_BYTES = 20;
    private static final int MAX_WORD = 8;
    private static final int MAX_DIGITS = 3;
    private static final int MAX_TYPES = 6;
    private static final int MAX_CONS = 6;
    private static final int ALL_CONS = MAX_TYPES * MAX_CONS;
    private static final int MAX_ARGS = 3;
    private static final int MAX_COLUMNS = 4;
    private static final int MAX_ROWS = 12;
    private static final int MAX_TERMS = 60;
    private static final int MAX_DEPTH = 6;
    // 60 CONS of 8 letters with ( ), and a blank and _ for each value behind them, stay below this.
    private static final int MAX_LINE = 1200;

    // The index of the TYPE I stands behind those of the TYPES that are told.
    private static final int NUMBERS = MAX_TYPES;
    private static final int LETTER_COUNT = 26;

    // Kinds of tokens; a SIGN's kind is its own byte, so these stay below all SIGNS.
    private static final int END = 0;
    private static final int BAD = 1;
    private static final int TYPE = 2;
    private static final int WORD = 3;
    private static final int LETTER = 4;
    private static final int NUMBER = 5;
    private static final int DATA = 6;
    private static final int NEW = 7;
    private static final int MATCH = 8;
    private static final int WHEN = 9;
    private static final String SIGNS = "=|;()_~!@?";

    // Kinds of terms, which are pats and values.
    private static final int ANYTHING = 0;
    private static final int LAZY = 1;
    private static final int STRICT = 2;
    private static final int NAMED = 3;
    private static final int DIGITS = 4;
    private static final int CON_ALONE = 5;
    private static final int CON_WITH = 6;
    private static final int NOT_THERE = 7;

    private final Form form = new Form();
    private final Terms values = new Terms();
    private final Trial trial = new Trial();
    private final Search search = new Search();
    private Rules rules = new Rules();
    // A text is read into this one, so that a FAULT leaves the SET before as it was.
    private Rules spare = new Rules();
    private boolean hasSet = false;
    private int fault = NONE;

    public PatternTrees() {
    }

    public int feed(int a, int b, int c, int d, int e) {
        Tokens tape = form.tokens;
        if (tape.length + FEED_BYTES > MAX_TAPE) {
            return NONE;
        }
        tape.addBytes(a);
        tape.addBytes(b);
        tape.addBytes(c);
        tape.addBytes(d);
        tape.addBytes(e);
        return tape.length;
    }

    public int end(int n) {
        Tokens tape = form.tokens;
        if (n < 0 || n > FEED_BYTES || tape.length < FEED_BYTES) {
            return NONE;
        }
        tape.length += n - FEED_BYTES;
        return tape.length;
    }

    public int text() {
        boolean formed = form.readSet(spare);
        fault = formed ? spare.findFault() : form.tokens.at();
        form.tokens.length = 0;
        if (fault != NONE) {
            return formed ? MEANING_FAULT : FORM_FAULT;
        }
        Rules before = rules;
        rules = spare;
        spare = before;
        hasSet = true;
        trial.forget();
        search.begin(rules);
        return rules.rows;
    }

    public int place() {
        return fault;
    }

    public int told(int what) {
        if (!hasSet) {
            return NONE;
        }
        switch (what) {
            case 0:
                return rules.types.count;
            case 1:
                return rules.types.conCount;
            case 2:
                return rules.columns;
            case 3:
                return rules.rows;
            case 4:
                return rules.pats.count;
            default:
                return NONE;
        }
    }

    public int run(int guards) {
        if (!hasSet) {
            return NONE;
        }
        trial.forget();
        boolean formed = form.readValues(values);
        int length = form.tokens.length;
        form.tokens.length = 0;
        if (!formed) {
            return FORM_FAULT;
        }
        if (rules.findFaultInRow(values, values.head, length) != NONE) {
            return MEANING_FAULT;
        }
        return trial.tryRows(rules, values, guards);
    }

    public int looks() {
        return hasSet ? trial.count : NONE;
    }

    public int looked(int i) {
        return hasSet && i >= 0 && i < trial.count ? trial.places[i] : NONE;
    }

    public int misses() {
        if (!hasSet) {
            return NONE;
        }
        search.findExample(rules);
        return search.line.length > 0 ? 1 : 0;
    }

    public int example(int i) {
        if (!hasSet) {
            return NONE;
        }
        search.findExample(rules);
        return i >= 0 && i < search.line.length ? search.line.bytes[i] : NONE;
    }

    public int never(int row) {
        if (!hasSet || row < 0 || row >= rules.rows) {
            return NONE;
        }
        return search.reaches(rules, row) ? 0 : 1;
    }

    /** The tape, and the tokens that it is cut to. */
    private static final class Tokens {
        final int[] bytes = new int[MAX_TAPE];
        int length = 0;
        private final int[] kinds = new int[MAX_TAPE + 1];
        private final int[] places = new int[MAX_TAPE + 1];
        private final int[] numbers = new int[MAX_TAPE + 1];
        private final long[] names = new long[MAX_TAPE + 1];
        private int count = 0;
        private int current = 0;

        void addBytes(int four) {
            for (int shift = 24; shift >= 0 && length < MAX_TAPE; shift -= 8) {
                bytes[length] = (four >>> shift) & 255;
                length++;
            }
        }

        int kind() {
            return kinds[current];
        }

        /** Where the first byte of the token stands. */
        int at() {
            return places[current];
        }

        int number() {
            return numbers[current];
        }

        long name() {
            return names[current];
        }

        void advance() {
            if (current < count - 1) {
                current++;
            }
        }

        /** No reader passes a token that is BAD, so nothing behind one is cut. */
        void cut() {
            count = 0;
            current = 0;
            int from = behindBlanks(0);
            for (int n = 0; n < MAX_TAPE && from < length; n++) {
                from = behindBlanks(cutToken(from));
                if (kinds[n] == BAD) {
                    return;
                }
            }
            add(END, length, 0, 0L);
        }

        private int behindBlanks(int from) {
            int end = from;
            while (end < length && (bytes[end] == ' ' || bytes[end] == '\n')) {
                end++;
            }
            return end;
        }

        /** Answers where the token ends, at least one byte behind from. */
        private int cutToken(int from) {
            int b = bytes[from];
            if (isLetter(b)) {
                return cutLetters(from);
            }
            if (isDigit(b)) {
                return cutDigits(from);
            }
            add(SIGNS.indexOf((char) b) >= 0 ? b : BAD, from, 0, 0L);
            return from + 1;
        }

        private int cutLetters(int from) {
            int end = from;
            long name = 0L;
            boolean small = true;
            while (end < length && isLetter(bytes[end])) {
                small = small && bytes[end] >= 'a';
                // Five bits a letter: eight letters fit a long, and a longer row is BAD anyway.
                name = name * 32 + (bytes[end] & 31);
                end++;
            }
            add(kindOfLetters(from, end - from, small), from, bytes[from] - 'A', name);
            return end;
        }

        private int kindOfLetters(int from, int size, boolean small) {
            if (size == 1) {
                return small ? LETTER : TYPE;
            }
            if (!small || size > MAX_WORD) {
                return BAD;
            }
            if (spells("data", from, size)) {
                return DATA;
            }
            if (spells("new", from, size)) {
                return NEW;
            }
            if (spells("match", from, size)) {
                return MATCH;
            }
            return spells("when", from, size) ? WHEN : WORD;
        }

        private boolean spells(String word, int from, int size) {
            if (word.length() != size) {
                return false;
            }
            for (int i = 0; i < size; i++) {
                if (bytes[from + i] != word.charAt(i)) {
                    return false;
                }
            }
            return true;
        }

        private int cutDigits(int from) {
            int end = from;
            int number = 0;
            while (end < length && isDigit(bytes[end])) {
                number = number * 10 + bytes[end] - '0';
                end++;
            }
            int size = end - from;
            boolean good = size == 1 || size <= MAX_DIGITS && bytes[from] != '0';
            add(good ? NUMBER : BAD, from, number, 0L);
            return end;
        }

        private void add(int kind, int at, int number, long name) {
            if (count < kinds.length) {
                kinds[count] = kind;
                places[count] = at;
                numbers[count] = number;
                names[count] = name;
                count++;
            }
        }

        private static boolean isLetter(int b) {
            return b >= 'a' && b <= 'z' || b >= 'A' && b <= 'Z';
        }

        private static boolean isDigit(int b) {
            return b >= '0' && b <= '9';
        }
    }

    /**
     * Reads the form of texts and of rows of values. Where reading ends with false or NONE, the token
     * that stands then is the one that cannot stand there.
     */
    private static final class Form {
        final Tokens tokens = new Tokens();

        boolean readSet(Rules rules) {
            rules.clear();
            tokens.cut();
            return readTypes(rules.types) && readColumns(rules) && readRows(rules);
        }

        /** As in a ROW, a first one must stand there; how many are wanted is a matter of meaning. */
        boolean readValues(Terms values) {
            values.clear();
            tokens.cut();
            values.head = readList(values, true, 1);
            return values.head != NONE && tokens.kind() == END;
        }

        private boolean readTypes(Types types) {
            for (int n = 0; n <= MAX_TYPES; n++) {
                int kind = tokens.kind();
                if (kind == MATCH) {
                    return n > 0;
                }
                if (kind != DATA && kind != NEW) {
                    return false;
                }
                tokens.advance();
                if (!readType(types, kind == NEW)) {
                    return false;
                }
            }
            return false;
        }

        private boolean readType(Types types, boolean isNew) {
            if (tokens.kind() != TYPE || types.count >= MAX_TYPES) {
                return false;
            }
            types.addType(tokens.number(), tokens.at(), isNew);
            tokens.advance();
            if (!pass('=')) {
                return false;
            }
            for (int n = 0; n < MAX_CONS; n++) {
                if (!readCon(types, isNew)) {
                    return false;
                }
                if (pass(';')) {
                    return true;
                }
                if (isNew || !pass('|')) {
                    return false;
                }
            }
            return false;
        }

        private boolean readCon(Types types, boolean isNew) {
            if (tokens.kind() != WORD) {
                return false;
            }
            types.addCon(tokens.name(), tokens.at());
            tokens.advance();
            int most = isNew ? 1 : MAX_ARGS;
            int n = 0;
            while (n < most && tokens.kind() == TYPE) {
                types.addArg(tokens.number(), tokens.at());
                tokens.advance();
                n++;
            }
            return !isNew || n == 1;
        }

        private boolean readColumns(Rules rules) {
            tokens.advance();
            for (int n = 0; n < MAX_COLUMNS && tokens.kind() == TYPE; n++) {
                rules.addColumn(tokens.number(), tokens.at());
                tokens.advance();
            }
            return rules.columns > 0 && pass(';');
        }

        private boolean readRows(Rules rules) {
            for (int n = 0; n < MAX_ROWS && tokens.kind() != END; n++) {
                int head = readList(rules.pats, false, 1);
                int endAt = tokens.at();
                boolean guarded = head != NONE && pass(WHEN);
                if (head == NONE || !pass(';')) {
                    return false;
                }
                rules.addRow(head, endAt, guarded);
            }
            return rules.rows > 0 && tokens.kind() == END;
        }

        private boolean pass(int kind) {
            if (tokens.kind() != kind) {
                return false;
            }
            tokens.advance();
            return true;
        }

        /** Reads one term or more, up to what may end a list, and answers the first one. */
        private int readList(Terms terms, boolean ofValues, int depth) {
            int head = readTerm(terms, ofValues, depth);
            int last = head;
            for (int n = 0; n < MAX_TERMS && last != NONE && !atListEnd(); n++) {
                int term = readTerm(terms, ofValues, depth);
                terms.next[last] = term;
                last = term;
            }
            return last == NONE ? NONE : head;
        }

        private boolean atListEnd() {
            int kind = tokens.kind();
            return kind == ')' || kind == ';' || kind == WHEN || kind == END;
        }

        private int readTerm(Terms terms, boolean ofValues, int depth) {
            if (depth > MAX_DEPTH || terms.count >= MAX_TERMS) {
                return NONE;
            }
            int kind = tokens.kind();
            if (kind == NUMBER) {
                return readLeaf(terms, DIGITS);
            }
            if (kind == WORD) {
                return readLeaf(terms, CON_ALONE);
            }
            if (kind == '(') {
                return readConWith(terms, ofValues, depth);
            }
            if (ofValues) {
                return kind == '?' ? readLeaf(terms, NOT_THERE) : NONE;
            }
            if (kind == '~') {
                return readAround(terms, readLeaf(terms, LAZY), depth);
            }
            if (kind == '!') {
                return readAround(terms, readLeaf(terms, STRICT), depth);
            }
            if (kind == LETTER) {
                return readLetter(terms, depth);
            }
            return kind == '_' ? readLeaf(terms, ANYTHING) : NONE;
        }

        private int readLeaf(Terms terms, int kind) {
            int term = terms.add(kind, tokens.at());
            terms.number[term] = tokens.number();
            terms.name[term] = tokens.name();
            tokens.advance();
            return term;
        }

        private int readLetter(Terms terms, int depth) {
            int term = readLeaf(terms, ANYTHING);
            if (!pass('@')) {
                return term;
            }
            terms.kind[term] = NAMED;
            return readAround(terms, term, depth);
        }

        private int readAround(Terms terms, int term, int depth) {
            terms.first[term] = readTerm(terms, false, depth + 1);
            return terms.first[term] == NONE ? NONE : term;
        }

        private int readConWith(Terms terms, boolean ofValues, int depth) {
            int term = readLeaf(terms, CON_WITH);
            if (tokens.kind() != WORD) {
                return NONE;
            }
            terms.name[term] = tokens.name();
            terms.nameAt[term] = tokens.at();
            tokens.advance();
            terms.first[term] = readList(terms, ofValues, depth + 1);
            terms.closeAt[term] = tokens.at();
            return terms.first[term] != NONE && pass(')') ? term : NONE;
        }
    }

    /** The TYPES that are told, with their CONS, each numbered in the order of the text. */
    private static final class Types {
        int count = 0;
        int conCount = 0;
        final boolean[] isNew = new boolean[MAX_TYPES];
        final int[] firstCon = new int[MAX_TYPES];
        final int[] consOf = new int[MAX_TYPES];
        final int[] conType = new int[ALL_CONS];
        final int[] arity = new int[ALL_CONS];
        final long[] conName = new long[ALL_CONS];
        final int[] argType = new int[ALL_CONS * MAX_ARGS];
        private final int[] letter = new int[MAX_TYPES];
        private final int[] letterAt = new int[MAX_TYPES];
        private final int[] conAt = new int[ALL_CONS];
        private final int[] argLetter = new int[ALL_CONS * MAX_ARGS];
        private final int[] argAt = new int[ALL_CONS * MAX_ARGS];
        private final int[] typeOfLetter = new int[LETTER_COUNT];

        void clear() {
            count = 0;
            conCount = 0;
        }

        void addType(int ofLetter, int at, boolean asNew) {
            if (count < MAX_TYPES) {
                letter[count] = ofLetter;
                letterAt[count] = at;
                isNew[count] = asNew;
                firstCon[count] = conCount;
                consOf[count] = 0;
                count++;
            }
        }

        void addCon(long name, int at) {
            if (count > 0 && conCount < ALL_CONS) {
                conName[conCount] = name;
                conAt[conCount] = at;
                conType[conCount] = count - 1;
                arity[conCount] = 0;
                consOf[count - 1]++;
                conCount++;
            }
        }

        void addArg(int ofLetter, int at) {
            int con = conCount - 1;
            if (con >= 0 && arity[con] < MAX_ARGS) {
                int arg = con * MAX_ARGS + arity[con];
                argLetter[arg] = ofLetter;
                argAt[arg] = at;
                arity[con]++;
            }
        }

        int typeOf(int ofLetter) {
            return ofLetter >= 0 && ofLetter < LETTER_COUNT ? typeOfLetter[ofLetter] : NONE;
        }

        /** The first CON of this name; NONE. */
        int conOf(long name) {
            for (int con = 0; con < conCount; con++) {
                if (conName[con] == name) {
                    return con;
                }
            }
            return NONE;
        }

        /** Where the first FAULT of meaning among the TYPES lies; NONE. */
        int findFault() {
            nameTypes();
            for (int type = 0; type < count; type++) {
                if (typeOf(letter[type]) != type) {
                    return letterAt[type];
                }
                int end = firstCon[type] + consOf[type];
                for (int con = firstCon[type]; con < end; con++) {
                    int at = conOf(conName[con]) != con ? conAt[con] : findFaultInArgs(con);
                    if (at != NONE) {
                        return at;
                    }
                }
            }
            return NONE;
        }

        /** A TYPE may be used ahead of where it is told, so all are named before one is looked for. */
        private void nameTypes() {
            for (int i = 0; i < LETTER_COUNT; i++) {
                typeOfLetter[i] = NONE;
            }
            typeOfLetter['I' - 'A'] = NUMBERS;
            for (int type = 0; type < count; type++) {
                int i = letter[type];
                if (i >= 0 && i < LETTER_COUNT && typeOfLetter[i] == NONE) {
                    typeOfLetter[i] = type;
                }
            }
        }

        private int findFaultInArgs(int con) {
            int from = con * MAX_ARGS;
            for (int arg = from; arg < from + arity[con]; arg++) {
                argType[arg] = typeOf(argLetter[arg]);
                if (argType[arg] == NONE) {
                    return argAt[arg];
                }
            }
            return NONE;
        }
    }

    /** Pats or values: each with the first one in it, and the next one beside it. */
    private static final class Terms {
        int count = 0;
        int head = NONE;
        final int[] kind = new int[MAX_TERMS];
        final int[] at = new int[MAX_TERMS];
        final int[] nameAt = new int[MAX_TERMS];
        final int[] closeAt = new int[MAX_TERMS];
        final long[] name = new long[MAX_TERMS];
        final int[] number = new int[MAX_TERMS];
        final int[] con = new int[MAX_TERMS];
        final int[] first = new int[MAX_TERMS];
        final int[] next = new int[MAX_TERMS];

        void clear() {
            count = 0;
            head = NONE;
        }

        /** Form.readTerm sees to it that there is room. */
        int add(int ofKind, int place) {
            int term = count < MAX_TERMS ? count : MAX_TERMS - 1;
            kind[term] = ofKind;
            at[term] = place;
            nameAt[term] = place;
            closeAt[term] = place;
            con[term] = NONE;
            first[term] = NONE;
            next[term] = NONE;
            count = term + 1;
            return term;
        }

        boolean isCon(int term) {
            return kind[term] == CON_ALONE || kind[term] == CON_WITH;
        }
    }

    /** A SET: its TYPES, COLUMNS and ROWS. */
    private static final class Rules {
        final Types types = new Types();
        final Terms pats = new Terms();
        int columns = 0;
        int rows = 0;
        /** The ROWS without when, a bit each. */
        int plainRows = 0;
        final int[] head = new int[MAX_ROWS];
        final int[] columnType = new int[MAX_COLUMNS];
        private final int[] columnLetter = new int[MAX_COLUMNS];
        private final int[] columnAt = new int[MAX_COLUMNS];
        private final int[] endAt = new int[MAX_ROWS];

        void clear() {
            types.clear();
            pats.clear();
            columns = 0;
            rows = 0;
            plainRows = 0;
        }

        void addColumn(int ofLetter, int at) {
            if (columns < MAX_COLUMNS) {
                columnLetter[columns] = ofLetter;
                columnAt[columns] = at;
                columns++;
            }
        }

        void addRow(int firstPat, int rowEnd, boolean guarded) {
            if (rows < MAX_ROWS) {
                head[rows] = firstPat;
                endAt[rows] = rowEnd;
                plainRows |= guarded ? 0 : 1 << rows;
                rows++;
            }
        }

        boolean isPlain(int row) {
            return (plainRows >> row & 1) == 1;
        }

        /** Where the first FAULT of meaning lies; NONE. */
        int findFault() {
            int at = types.findFault();
            for (int column = 0; column < columns && at == NONE; column++) {
                columnType[column] = types.typeOf(columnLetter[column]);
                at = columnType[column] == NONE ? columnAt[column] : NONE;
            }
            for (int row = 0; row < rows && at == NONE; row++) {
                at = findFaultInRow(pats, head[row], endAt[row]);
            }
            return at;
        }

        int findFaultInRow(Terms terms, int firstTerm, int rowEnd) {
            return findFaultInList(terms, firstTerm, columnType, 0, columns, rowEnd);
        }

        /** The terms of a list stand for as many values as TYPES are wanted, from an index on. */
        private int findFaultInList(Terms terms, int firstTerm, int[] wanted, int from, int many, int listEnd) {
            int term = firstTerm;
            for (int i = 0; i < many; i++) {
                if (term == NONE) {
                    return listEnd;
                }
                int at = findFaultInTerm(terms, term, wanted[from + i]);
                if (at != NONE) {
                    return at;
                }
                term = terms.next[term];
            }
            return term == NONE ? NONE : terms.at[term];
        }

        /** Terms are at most six deep, and so are these calls. */
        private int findFaultInTerm(Terms terms, int term, int type) {
            if (terms.kind[term] == DIGITS) {
                return type == NUMBERS ? NONE : terms.at[term];
            }
            if (!terms.isCon(term)) {
                int inner = terms.first[term];
                return inner == NONE ? NONE : findFaultInTerm(terms, inner, type);
            }
            int con = types.conOf(terms.name[term]);
            if (con == NONE || types.conType[con] != type) {
                return terms.nameAt[term];
            }
            terms.con[term] = con;
            if (terms.kind[term] == CON_ALONE) {
                return types.arity[con] == 0 ? NONE : terms.nameAt[term];
            }
            return findFaultInList(terms, terms.first[term], types.argType, con * MAX_ARGS,
                    types.arity[con], terms.closeAt[term]);
        }

        /** A CON of a data TYPE is there to be looked at; one of a new TYPE is no more than what is behind. */
        boolean isNewCon(Terms terms, int term) {
            int con = terms.con[term];
            return terms.isCon(term) && con != NONE && types.isNew[types.conType[con]];
        }
    }

    /** Tries the ROWS on a row of values, and keeps the PLACES that it looks at. */
    private static final class Trial {
        int count = 0;
        final int[] places = new int[MAX_TERMS];

        void forget() {
            count = 0;
        }

        int tryRows(Rules rules, Terms values, int guards) {
            for (int row = 0; row < rules.rows; row++) {
                int end = tryList(rules, values, rules.head[row], values.head, 1);
                if (end == UNDEFINED) {
                    return UNDEFINED;
                }
                boolean holds = rules.isPlain(row) || (guards >> row & 1) == 1;
                if (end == MATCHED && holds) {
                    return row;
                }
            }
            return FAILED;
        }

        /** The PLACES of values that stand side by side follow one another. */
        private int tryList(Rules rules, Terms values, int firstPat, int firstValue, int firstPlace) {
            int pat = firstPat;
            int value = firstValue;
            int end = MATCHED;
            for (int i = 0; i < MAX_COLUMNS && pat != NONE && value != NONE && end == MATCHED; i++) {
                end = tryPat(rules, values, pat, value, firstPlace + i);
                pat = rules.pats.next[pat];
                value = values.next[value];
            }
            return end;
        }

        /** Pats are at most six deep, and so are these calls. */
        private int tryPat(Rules rules, Terms values, int pat, int value, int place) {
            Terms pats = rules.pats;
            int kind = pats.kind[pat];
            int inner = pats.first[pat];
            if (kind == ANYTHING || kind == LAZY) {
                return MATCHED;
            }
            if (kind == NAMED) {
                return inner == NONE ? MATCHED : tryPat(rules, values, inner, value, place);
            }
            if (rules.isNewCon(pats, pat)) {
                int behind = rules.isNewCon(values, value) ? values.first[value] : value;
                return inner == NONE || behind == NONE ? MATCHED : tryPat(rules, values, inner, behind, place);
            }
            int seen = look(rules, values, value, place);
            if (values.kind[seen] == NOT_THERE) {
                return UNDEFINED;
            }
            if (kind == STRICT) {
                return inner == NONE ? MATCHED : tryPat(rules, values, inner, value, place);
            }
            if (kind == DIGITS) {
                return pats.number[pat] == values.number[seen] ? MATCHED : FAILED;
            }
            if (pats.con[pat] != values.con[seen]) {
                return FAILED;
            }
            return tryList(rules, values, inner, values.first[seen], 4 * place + 1);
        }

        /** Answers the value that is seen, behind all CONS of new TYPES. */
        private int look(Rules rules, Terms values, int value, int place) {
            int seen = value;
            for (int i = 0; i < MAX_DEPTH && rules.isNewCon(values, seen) && values.first[seen] != NONE; i++) {
                seen = values.first[seen];
            }
            keep(place);
            return seen;
        }

        private void keep(int place) {
            for (int i = 0; i < count; i++) {
                if (places[i] == place) {
                    return;
                }
            }
            if (count < MAX_TERMS) {
                places[count] = place;
                count++;
            }
        }
    }

    /**
     * What each ROW asks for, laid flat and in the order of asking. A spot is a PLACE that some ROW
     * asks for; what it is settled to is a CON, or a NUMBER behind all CONS.
     */
    private static final class Asks {
        int spots = 0;
        int count = 0;
        final int[] spotPlace = new int[MAX_TERMS];
        final int[] spot = new int[MAX_TERMS];
        final int[] answer = new int[MAX_TERMS];
        /** The asks of a ROW begin here, and end where those of the next one begin. */
        final int[] begin = new int[MAX_ROWS + 1];
        /** What a ROW asks for at a spot; NONE. */
        private final int[] wanted = new int[MAX_ROWS * MAX_TERMS];

        void collect(Rules rules) {
            spots = 0;
            count = 0;
            for (int i = 0; i < wanted.length; i++) {
                wanted[i] = NONE;
            }
            for (int row = 0; row < rules.rows; row++) {
                begin[row] = count;
                collectList(rules, row, rules.head[row], 1);
                begin[row + 1] = count;
            }
        }

        /** Those of the ROWS that could still match once a spot is settled to this answer. */
        int rowsLeft(int rows, int ofSpot, int settledTo) {
            int left = 0;
            for (int row = 0; row < MAX_ROWS; row++) {
                int want = wanted[row * MAX_TERMS + ofSpot];
                if ((rows >> row & 1) == 1 && (want == NONE || want == settledTo)) {
                    left |= 1 << row;
                }
            }
            return left;
        }

        /** The least answer from a bound on that some of the ROWS wants at a spot; NONE. */
        int leastWanted(int rows, int ofSpot, int bound) {
            int least = NONE;
            for (int row = 0; row < MAX_ROWS; row++) {
                int want = (rows >> row & 1) == 1 ? wanted[row * MAX_TERMS + ofSpot] : NONE;
                if (want >= bound && (least == NONE || want < least)) {
                    least = want;
                }
            }
            return least;
        }

        /** Each of the ROWS wants one answer at the most, so one of the first 13 from a bound on is free. */
        int leastUnwanted(int rows, int ofSpot, int bound) {
            int free = bound;
            for (int n = 0; n < MAX_ROWS && leastWanted(rows, ofSpot, free) == free; n++) {
                free++;
            }
            return free;
        }

        int spotOf(int place) {
            for (int i = 0; i < spots; i++) {
                if (spotPlace[i] == place) {
                    return i;
                }
            }
            return NONE;
        }

        private void collectList(Rules rules, int row, int firstPat, int firstPlace) {
            int pat = firstPat;
            for (int i = 0; i < MAX_COLUMNS && pat != NONE; i++) {
                collectPat(rules, row, pat, firstPlace + i);
                pat = rules.pats.next[pat];
            }
        }

        /** Pats are at most six deep, and so are these calls. */
        private void collectPat(Rules rules, int row, int pat, int place) {
            Terms pats = rules.pats;
            int kind = pats.kind[pat];
            int inner = pats.first[pat];
            if (kind == DIGITS) {
                ask(row, place, ALL_CONS + pats.number[pat]);
            } else if (kind == STRICT || kind == NAMED || rules.isNewCon(pats, pat)) {
                if (inner != NONE) {
                    collectPat(rules, row, inner, place);
                }
            } else if (pats.isCon(pat)) {
                ask(row, place, pats.con[pat]);
                collectList(rules, row, inner, 4 * place + 1);
            }
        }

        private void ask(int row, int place, int forAnswer) {
            if (count >= MAX_TERMS) {
                return;
            }
            int ofSpot = spotOf(place);
            if (ofSpot == NONE) {
                ofSpot = spots;
                spotPlace[spots] = place;
                spots++;
            }
            spot[count] = ofSpot;
            answer[count] = forAnswer;
            wanted[row * MAX_TERMS + ofSpot] = forAnswer;
            count++;
        }
    }

    /** Looks for rows of values that none of some ROWS matches, by settling one spot after the other. */
    private static final class Search {
        final Line line = new Line();
        private final Asks asks = new Asks();
        private final int[] settled = new int[MAX_TERMS];
        private boolean exampleSought = false;

        void begin(Rules rules) {
            asks.collect(rules);
            line.clear();
            exampleSought = false;
        }

        /** Leaves THE EXAMPLE in the line, which stays empty without one. */
        void findExample(Rules rules) {
            if (exampleSought) {
                return;
            }
            exampleSought = true;
            unsettle();
            if (escapes(rules.types, rules.plainRows, 0)) {
                settleExample(rules.types, rules.plainRows);
                writeExample(rules);
            }
        }

        /** Whether a ROW matches something that no ROW without when ahead of it does. */
        boolean reaches(Rules rules, int row) {
            unsettle();
            int left = rules.plainRows & (1 << row) - 1;
            for (int ask = asks.begin[row]; ask < asks.begin[row + 1]; ask++) {
                left = settle(left, asks.spot[ask], asks.answer[ask]);
            }
            return escapes(rules.types, left, 0);
        }

        private void unsettle() {
            for (int i = 0; i < MAX_TERMS; i++) {
                settled[i] = NONE;
            }
        }

        /** Settles a spot, and answers the ROWS that could still match. */
        private int settle(int rows, int spot, int answer) {
            settled[spot] = answer;
            return asks.rowsLeft(rows, spot, answer);
        }

        /**
         * Whether the spots that are open can be settled so that none of the ROWS matches; they are open
         * again then. Each call in another settles one more of them, so there are never more than 60.
         */
        private boolean escapes(Types types, int rows, int depth) {
            if (rows == 0) {
                return true;
            }
            int ask = depth < MAX_TERMS ? openAsk(rows) : NONE;
            if (ask == NONE) {
                return false;
            }
            int spot = asks.spot[ask];
            // What no ROW wants leaves none but those that any other answer leaves too: it will do alone.
            int unwanted = unwantedAnswer(types, rows, ask);
            int answer = unwanted == NONE ? firstAnswer(types, rows, ask) : unwanted;
            boolean found = false;
            for (int n = 0; n < MAX_CONS && answer != NONE && !found; n++) {
                found = escapes(types, settle(rows, spot, answer), depth + 1);
                answer = unwanted == NONE ? nextAnswer(types, rows, spot, answer) : NONE;
            }
            settled[spot] = NONE;
            return found;
        }

        /** The way to THE EXAMPLE, once there is one: at each spot by the first answer that leads to any. */
        private void settleExample(Types types, int rows) {
            int left = rows;
            int ask = openAsk(left);
            for (int depth = 1; depth <= MAX_TERMS && ask != NONE; depth++) {
                left = settleFirst(types, left, ask, depth);
                ask = openAsk(left);
            }
        }

        private int settleFirst(Types types, int rows, int ask, int depth) {
            int spot = asks.spot[ask];
            int answer = firstAnswer(types, rows, ask);
            int left = settle(rows, spot, answer);
            for (int n = 0; n <= MAX_ROWS && answer != NONE && !escapes(types, left, depth); n++) {
                answer = nextAnswer(types, rows, spot, answer);
                left = settle(rows, spot, answer);
            }
            return left;
        }

        /** What the first of the ROWS asks for first; NONE. */
        private int openAsk(int rows) {
            int row = Integer.numberOfTrailingZeros(rows);
            if (row >= MAX_ROWS) {
                return NONE;
            }
            for (int ask = asks.begin[row]; ask < asks.begin[row + 1]; ask++) {
                if (settled[asks.spot[ask]] == NONE) {
                    return ask;
                }
            }
            return NONE;
        }

        private int firstAnswer(Types types, int rows, int ask) {
            int answer = asks.answer[ask];
            if (answer < ALL_CONS) {
                return types.firstCon[types.conType[answer]];
            }
            return asks.leastWanted(rows, asks.spot[ask], ALL_CONS);
        }

        /** The CONS of a TYPE follow one another; behind the NUMBERS that are wanted comes one that is not. */
        private int nextAnswer(Types types, int rows, int spot, int answer) {
            if (answer < ALL_CONS) {
                int type = types.conType[answer];
                return answer + 1 < types.firstCon[type] + types.consOf[type] ? answer + 1 : NONE;
            }
            if (asks.leastWanted(rows, spot, answer) != answer) {
                return NONE;
            }
            int above = asks.leastWanted(rows, spot, answer + 1);
            return above == NONE ? asks.leastUnwanted(rows, spot, ALL_CONS) : above;
        }

        /** The first CON, or the least NUMBER, that none of the ROWS wants; NONE: each CON is wanted. */
        private int unwantedAnswer(Types types, int rows, int ask) {
            int spot = asks.spot[ask];
            if (asks.answer[ask] >= ALL_CONS) {
                return asks.leastUnwanted(rows, spot, ALL_CONS);
            }
            int type = types.conType[asks.answer[ask]];
            int con = asks.leastUnwanted(rows, spot, types.firstCon[type]);
            return con < types.firstCon[type] + types.consOf[type] ? con : NONE;
        }

        private void writeExample(Rules rules) {
            for (int column = 0; column < rules.columns; column++) {
                if (column > 0) {
                    line.put(' ');
                }
                writeValue(rules.types, rules.columnType[column], column + 1, 1);
            }
        }

        /** What is asked for is at most as deep as pats are. */
        private void writeValue(Types types, int type, int place, int depth) {
            int spot = asks.spotOf(place);
            int answer = spot == NONE ? NONE : settled[spot];
            if (answer == NONE || depth > MAX_DEPTH) {
                line.put('_');
            } else if (type < MAX_TYPES && types.isNew[type]) {
                writeConWith(types, types.firstCon[type], place, depth);
            } else if (answer >= ALL_CONS) {
                line.putNumber(answer - ALL_CONS);
            } else if (types.arity[answer] == 0) {
                line.putName(types.conName[answer]);
            } else {
                writeConWith(types, answer, 4 * place + 1, depth);
            }
        }

        private void writeConWith(Types types, int con, int firstPlace, int depth) {
            line.put('(');
            line.putName(types.conName[con]);
            for (int i = 0; i < types.arity[con]; i++) {
                line.put(' ');
                writeValue(types, types.argType[con * MAX_ARGS + i], firstPlace + i, depth + 1);
            }
            line.put(')');
        }
    }

    /** The bytes of THE EXAMPLE. */
    private static final class Line {
        int length = 0;
        final int[] bytes = new int[MAX_LINE];

        void clear() {
            length = 0;
        }

        void put(int b) {
            if (length < MAX_LINE) {
                bytes[length] = b;
                length++;
            }
        }

        void putNumber(int number) {
            if (number > 99) {
                put('0' + number / 100 % 10);
            }
            if (number > 9) {
                put('0' + number / 10 % 10);
            }
            put('0' + number % 10);
        }

        void putName(long name) {
            for (int shift = 5 * (MAX_WORD - 1); shift >= 0; shift -= 5) {
                int letter = (int) (name >> shift & 31L);
                if (letter > 0) {
                    put('a' + letter - 1);
                }
            }
        }
    }
}
