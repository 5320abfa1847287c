import java.util.NoSuchElementException;

/** Terms that become one by facts and by what they are made of, and why they do. README.md says how it is used. */
public final class ReasonCloser {
    public static final int NONE = -1;

    private static final int BEYOND = -2;

    private static final int NO_SUCH = 1;
    private static final int BAD_NUMBER = 2;
    private static final int TOO_MANY = 3;
    private static final int FAULTY = 4;
    private static final int NOT_SO = 5;

    private static final int MOST_BYTES = 500;
    private static final int MOST_FUNCTIONS = 8;
    private static final int MOST_TERMS = 24;
    private static final int MOST_SAMES = 12;
    private static final int MOST_DIFFS = 8;
    private static final int MOST_PARTS = 3;
    private static final int MOST_LETTERS = 6;
    private static final int MOST_PAIRS = MOST_TERMS * (MOST_TERMS - 1) / 2;
    private static final int MOST_ACTS = MOST_SAMES + MOST_DIFFS + MOST_TERMS;
    private static final int TOP_SUM = 1000000000;

    private final Tape tape;
    private final Costs costs;
    private final Proofs proofs;
    private final Groups paper;
    private final Groups under;
    private Facts facts;
    private Facts spare;
    private int trouble;
    private int latestFault;
    private int place;

    public ReasonCloser() {
        tape = new Tape();
        costs = new Costs();
        proofs = new Proofs();
        paper = new Groups();
        under = new Groups();
        facts = new Facts();
        spare = new Facts();
        place = NONE;
    }

    // ---- texts

    public int feed(int a, int b, int c, int d, int e) {
        if (tape.bytes + 20 > MOST_BYTES) {
            return NONE;
        }
        tape.append(a);
        tape.append(b);
        tape.append(c);
        tape.append(d);
        tape.append(e);
        return tape.bytes;
    }

    public int text(int n) {
        if (n < 0 || n > tape.bytes) {
            return refuse(BAD_NUMBER);
        }
        Reader reader = new Reader(tape, n, spare);
        boolean read = reader.readText();
        tape.bytes = 0;
        latestFault = reader.found;
        if (!read) {
            refuse(FAULTY);
            place = reader.start;
            return NONE;
        }
        Facts gone = facts;
        facts = spare;
        spare = gone;
        costs.settled = false;
        return answer(facts.terms.count);
    }

    public int fault() {
        return latestFault;
    }

    public int where() {
        return place;
    }

    // ---- what there is

    public int about(int what) {
        switch (what) {
            case 0:
                return answer(facts.terms.functions);
            case 1:
                return answer(facts.terms.count);
            case 2:
                return answer(facts.sames);
            case 3:
                return answer(facts.diffs);
            case 4:
                return answer(facts.groups.groups);
            case 5:
                return answer(facts.acts);
            case 6:
                return answer(facts.forest.joins);
            case 7:
                return answer(facts.firstClash(facts.groups));
            default:
                return refuse(NO_SUCH);
        }
    }

    public int function(int f, int what) {
        if (f < 0 || f >= facts.terms.functions) {
            return refuse(NO_SUCH);
        }
        switch (what) {
            case 0:
                return answer(facts.terms.takes[f]);
            case 1:
                return answer(facts.terms.termsOf(f));
            case 2:
                return answer(facts.terms.groupsWith(f, facts.groups));
            default:
                return refuse(NO_SUCH);
        }
    }

    public int term(int t, int what) {
        if (!isTerm(t)) {
            return refuse(NO_SUCH);
        }
        switch (what) {
            case 0:
                return answer(facts.terms.functionOf[t]);
            case 1:
                return answer(facts.groups.lead[t]);
            case 2:
                return answer(facts.groups.members(t));
            case 3:
                return answer(facts.terms.termsAbove(t, facts.groups));
            case 4:
                return answer(facts.terms.deep[t]);
            case 5:
                return answer(facts.forest.hangsOn[t] < 0 ? BEYOND : facts.forest.hangsOn[t]);
            default:
                return refuse(NO_SUCH);
        }
    }

    public int partOf(int t, int k) {
        if (!isTerm(t) || k < 0) {
            return refuse(NO_SUCH);
        }
        return answer(k < facts.terms.partsOf(t) ? facts.terms.partAt(t, k) : BEYOND);
    }

    public int sameOf(int k, int what) {
        if (!isSame(k)) {
            return refuse(NO_SUCH);
        }
        int a = facts.sameFirst[k];
        int b = facts.sameSecond[k];
        switch (what) {
            case 0:
                return answer(a);
            case 1:
                return answer(b);
            case 2:
                return answer(bit(isOneBy(facts.allSames() & ~(1 << k), a, b)));
            default:
                return refuse(NO_SUCH);
        }
    }

    public int diffOf(int k, int what) {
        if (k < 0 || k >= facts.diffs) {
            return refuse(NO_SUCH);
        }
        switch (what) {
            case 0:
                return answer(facts.diffFirst[k]);
            case 1:
                return answer(facts.diffSecond[k]);
            case 2:
                return answer(bit(facts.clashes(k, facts.groups)));
            default:
                return refuse(NO_SUCH);
        }
    }

    public int joinOf(int k, int what) {
        if (k < 0 || k >= facts.forest.joins) {
            return refuse(NO_SUCH);
        }
        switch (what) {
            case 0:
                return answer(facts.forest.joinFirst[k]);
            case 1:
                return answer(facts.forest.joinSecond[k]);
            case 2:
                return answer(facts.forest.cause[k] < 0 ? BEYOND : facts.forest.cause[k]);
            default:
                return refuse(NO_SUCH);
        }
    }

    public int height(int t) {
        if (!isTerm(t)) {
            return refuse(NO_SUCH);
        }
        return answer(facts.forest.stepsUp(t));
    }

    public int hung(int t, int i) {
        if (!isTerm(t) || i < 0) {
            return refuse(NO_SUCH);
        }
        return answer(facts.forest.hangingOn(t, i));
    }

    public int equal(int t, int u) {
        if (!isTerm(t) || !isTerm(u)) {
            return refuse(NO_SUCH);
        }
        return answer(bit(facts.groups.one(t, u)));
    }

    public int apart(int t, int u) {
        if (!isTerm(t) || !isTerm(u)) {
            return refuse(NO_SUCH);
        }
        return answer(bit(facts.keptApart(t, u)));
    }

    // ---- why

    public int reasons(int t, int u) {
        int why = whyNotOne(t, u);
        return why != 0 ? refuse(why) : answer(facts.forest.reasonsBetween(t, u));
    }

    public int pruned(int t, int u) {
        int why = whyNotOne(t, u);
        if (why != 0) {
            return refuse(why);
        }
        int set = facts.allSames();
        for (int k = facts.sames - 1; k >= 0; k--) {
            int less = set & ~(1 << k);
            if (isOneBy(less, t, u)) {
                set = less;
            }
        }
        return answer(set);
    }

    public int fewest(int t, int u) {
        int why = whyNotOne(t, u);
        if (why != 0) {
            return refuse(why);
        }
        return answer(proofs.fewestSames(facts, t, u, MOST_SAMES));
    }

    public int proves(int set, int t, int u) {
        if (!isTerm(t) || !isTerm(u)) {
            return refuse(NO_SUCH);
        }
        if (set < 0 || set > facts.allSames()) {
            return refuse(BAD_NUMBER);
        }
        return answer(bit(isOneBy(set, t, u)));
    }

    public int since(int t, int u) {
        int why = whyNotOne(t, u);
        if (why != 0) {
            return refuse(why);
        }
        facts.closeBy(0, paper);
        int k = 0;
        for (; k < facts.sames && !paper.one(t, u); k++) {
            facts.supposeSame(facts.sameFirst[k], facts.sameSecond[k], paper);
        }
        return answer(k);
    }

    public int needed(int t, int u) {
        int why = whyNotOne(t, u);
        if (why != 0) {
            return refuse(why);
        }
        int set = 0;
        for (int k = 0; k < facts.sames; k++) {
            if (!isOneBy(facts.allSames() & ~(1 << k), t, u)) {
                set |= 1 << k;
            }
        }
        return answer(set);
    }

    public int many(int t, int u) {
        int why = whyNotOne(t, u);
        if (why != 0) {
            return refuse(why);
        }
        return answer(proofs.leastSets(facts, t, u));
    }

    public int base() {
        int set = facts.allSames();
        for (int k = facts.sames - 1; k >= 0; k--) {
            int less = set & ~(1 << k);
            if (isOneBy(less, facts.sameFirst[k], facts.sameSecond[k])) {
                set = less;
            }
        }
        return set;
    }

    public int level(int t, int u) {
        int why = whyNotOne(t, u);
        if (why != 0) {
            return refuse(why);
        }
        paper.partAll(facts.terms.count);
        for (int k = 0; k < facts.sames; k++) {
            paper.unite(facts.sameFirst[k], facts.sameSecond[k]);
        }
        int n = 0;
        for (; n < MOST_TERMS && !paper.one(t, u); n++) {
            under.copyFrom(paper);
            facts.terms.climb(under, paper);
        }
        return answer(n);
    }

    public int cost(int t, int u) {
        int why = whyNotOne(t, u);
        if (why != 0) {
            return refuse(why);
        }
        costs.settle(facts);
        return answer(costs.least(t, u));
    }

    public int way(int t, int u, int i) {
        int why = i < 0 ? NO_SUCH : whyNotOne(t, u);
        if (why != 0) {
            return refuse(why);
        }
        costs.settle(facts);
        return answer(costs.termOnWay(t, u, i));
    }

    public int core() {
        int best = BEYOND;
        for (int k = 0; k < facts.diffs; k++) {
            if (facts.clashes(k, facts.groups)) {
                int most = best < 0 ? MOST_SAMES : Integer.bitCount(best);
                int set = proofs.fewestSames(facts, facts.diffFirst[k], facts.diffSecond[k], most);
                if (set >= 0 && (best < 0 || Integer.bitCount(set) < most || set < best)) {
                    best = set;
                }
            }
        }
        return best;
    }

    // ---- on paper

    public int would(int t, int u, int what) {
        if (!isTerm(t) || !isTerm(u) || what < 0 || what > 2) {
            return refuse(NO_SUCH);
        }
        paper.copyFrom(facts.groups);
        facts.supposeSame(t, u, paper);
        if (what == 0) {
            return answer(paper.groups);
        }
        return answer(what == 1 ? facts.firstClash(paper) : facts.groups.groups - paper.groups);
    }

    public int next(int t, int u, int i, int what) {
        if (!isTerm(t) || !isTerm(u) || i < 0 || what < 0 || what > 2) {
            return refuse(NO_SUCH);
        }
        if (facts.groups.one(t, u)) {
            return answer(BEYOND);
        }
        if (i == 0) {
            return answer(what == 2 ? 1 : what == 0 ? t : u);
        }
        paper.copyFrom(facts.groups);
        paper.unite(t, u);
        int pair = facts.terms.nextPair(paper);
        for (int k = 1; k < i && k < MOST_TERMS && pair >= 0; k++) {
            paper.unite(facts.terms.low[pair], facts.terms.high[pair]);
            pair = facts.terms.nextPair(paper);
        }
        if (pair < 0) {
            return answer(BEYOND);
        }
        return answer(what == 2 ? 0 : what == 0 ? facts.terms.low[pair] : facts.terms.high[pair]);
    }

    public int without(int k, int what) {
        if (!isSame(k) || what < 0 || what > 1) {
            return refuse(NO_SUCH);
        }
        facts.closeBy(facts.allSames() & ~(1 << k), paper);
        return answer(what == 0 ? paper.groups : facts.firstClash(paper));
    }

    public int free() {
        int pairs = 0;
        for (int i = 0; i < facts.terms.count; i++) {
            for (int j = i + 1; j < facts.terms.count; j++) {
                // all pairs of the same two GROUPS fare alike, so the leads stand for them
                if (facts.groups.lead[i] == i && facts.groups.lead[j] == j && isFree(i, j)) {
                    pairs += facts.groups.members(i) * facts.groups.members(j);
                }
            }
        }
        return pairs;
    }

    // ---- acts

    public int join(int t, int u) {
        if (!isTerm(t) || !isTerm(u)) {
            return refuse(NO_SUCH);
        }
        if (facts.sames >= MOST_SAMES) {
            return refuse(TOO_MANY);
        }
        facts.noteAct(Facts.JOINED);
        facts.comeSame(t, u);
        costs.settled = false;
        return answer(facts.groups.groups);
    }

    public int part(int t, int u) {
        if (!isTerm(t) || !isTerm(u)) {
            return refuse(NO_SUCH);
        }
        if (facts.diffs >= MOST_DIFFS) {
            return refuse(TOO_MANY);
        }
        facts.noteAct(Facts.PARTED);
        facts.comeDiff(t, u);
        return answer(bit(facts.groups.one(t, u)));
    }

    public int make(int f, int a, int b, int c) {
        if (f < 0 || f >= facts.terms.functions) {
            return refuse(NO_SUCH);
        }
        int takes = facts.terms.takes[f];
        if (takes > 0 && !isTerm(a) || takes > 1 && !isTerm(b) || takes > 2 && !isTerm(c)) {
            return refuse(NO_SUCH);
        }
        if (facts.terms.count >= MOST_TERMS) {
            return refuse(TOO_MANY);
        }
        facts.noteAct(Facts.MADE);
        facts.comeTerm(0, f, a, b, c);
        costs.settled = false;
        return answer(facts.terms.count - 1);
    }

    public boolean undo() {
        if (facts.acts == 0) {
            return false;
        }
        facts.undoLatest();
        costs.settled = false;
        return true;
    }

    // ---- what is told

    public int named(int n) throws NoSuchElementException {
        if (n < 0 || n > tape.bytes) {
            throw new NoSuchElementException("there are not so many bytes");
        }
        int t = facts.terms.termNamed(tape.onlyWord(n));
        if (t < 0) {
            throw new NoSuchElementException("no term has this name");
        }
        return t;
    }

    public int size() {
        return tape.bytes;
    }

    public int trouble() {
        return trouble;
    }

    private int answer(int given) {
        trouble = 0;
        place = NONE;
        return given;
    }

    private int refuse(int why) {
        trouble = why;
        place = NONE;
        return NONE;
    }

    private int bit(boolean so) {
        return so ? 1 : 0;
    }

    private boolean isTerm(int t) {
        return t >= 0 && t < facts.terms.count;
    }

    private boolean isSame(int k) {
        return k >= 0 && k < facts.sames;
    }

    /** The TROUBLE of a call that asks why two TERMS are one; 0 if they are. */
    private int whyNotOne(int t, int u) {
        if (!isTerm(t) || !isTerm(u)) {
            return NO_SUCH;
        }
        return facts.groups.one(t, u) ? 0 : NOT_SO;
    }

    private boolean isOneBy(int set, int t, int u) {
        facts.closeBy(set, paper);
        return paper.one(t, u);
    }

    private boolean isFree(int t, int u) {
        paper.copyFrom(facts.groups);
        facts.supposeSame(t, u, paper);
        return facts.firstClash(paper) < 0;
    }

    /** THE TAPE. */
    private static final class Tape {
        final byte[] row = new byte[MOST_BYTES];
        int bytes;

        void append(int four) {
            if (bytes + 4 > MOST_BYTES) {
                return;
            }
            row[bytes] = (byte) (four >>> 24);
            row[bytes + 1] = (byte) (four >>> 16);
            row[bytes + 2] = (byte) (four >>> 8);
            row[bytes + 3] = (byte) four;
            bytes += 4;
        }

        boolean isLetter(int at) {
            return row[at] >= 'a' && row[at] <= 'z';
        }

        boolean isDigit(int at) {
            return row[at] >= '0' && row[at] <= '9';
        }

        /** Behind the letters that stand together from a place on. */
        int behindLetters(int from, int end) {
            int at = from;
            for (; at < end; at++) {
                if (!isLetter(at)) {
                    break;
                }
            }
            return at;
        }

        int behindBlanks(int from, int end) {
            int at = from;
            for (; at < end; at++) {
                if (row[at] != ' ') {
                    break;
                }
            }
            return at;
        }

        /** A WORD as a number above 0, each its own; 0 if there are no letters, or too many for a WORD. */
        int wordNumber(int from, int behind) {
            if (behind - from > MOST_LETTERS) {
                return 0;
            }
            int number = 0;
            for (int at = from; at < behind; at++) {
                number = number * 27 + (row[at] - 'a' + 1);
            }
            return number;
        }

        /** The one WORD that the first n bytes hold beside blanks, as a number; 0 if that isn't what they hold. */
        int onlyWord(int n) {
            int from = behindBlanks(0, n);
            int behind = behindLetters(from, n);
            return behindBlanks(behind, n) == n ? wordNumber(from, behind) : 0;
        }
    }

    /** Reads THE TEXT from THE TAPE, token by token, into facts that nobody uses yet. */
    private static final class Reader {
        private static final int FORM = 1;
        private static final int WIDE = 2;
        private static final int NAME = 3;
        private static final int MANY = 4;
        private static final int COUNT = 5;

        private static final int END = 0;
        private static final int WORD = 1;
        private static final int WHOLE = 2;
        private static final int SIGN = 3;
        private static final int WRONG = 4;

        // fun, term, same, diff as wordNumber() tells them
        private static final int FUN = (6 * 27 + 21) * 27 + 14;
        private static final int TERM = ((20 * 27 + 5) * 27 + 18) * 27 + 13;
        private static final int SAME = ((19 * 27 + 1) * 27 + 13) * 27 + 5;
        private static final int DIFF = ((4 * 27 + 9) * 27 + 6) * 27 + 6;

        final Tape tape;
        final int end;
        final Facts facts;
        final int[] chosen = new int[MOST_PARTS];
        int found;
        /** The TOKEN that is looked at: where it starts, its kind, and the WORD, the digit or the sign that it is. */
        int start;
        int kind;
        int value;
        int behind;

        Reader(Tape tape, int end, Facts facts) {
            this.tape = tape;
            this.end = end;
            this.facts = facts;
        }

        boolean readText() {
            facts.clear();
            advance();
            for (int line = 0; line <= MOST_BYTES; line++) {
                if (!readLine()) {
                    return false;
                }
                if (kind == END) {
                    return true;
                }
                if (!isSign(';')) {
                    return fail(FORM);
                }
                advance();
            }
            return fail(FORM);
        }

        private boolean readLine() {
            if (kind != WORD) {
                return fail(FORM);
            }
            switch (value) {
                case FUN:
                    return readFunction();
                case TERM:
                    return readTerm();
                case SAME:
                    return facts.sames >= MOST_SAMES ? fail(MANY) : readTwo(true);
                case DIFF:
                    return facts.diffs >= MOST_DIFFS ? fail(MANY) : readTwo(false);
                default:
                    return fail(FORM);
            }
        }

        private boolean readFunction() {
            if (facts.terms.functions >= MOST_FUNCTIONS) {
                return fail(MANY);
            }
            advance();
            if (!isNewName()) {
                return false;
            }
            int name = value;
            advance();
            if (kind != WHOLE) {
                return fail(FORM);
            }
            if (value > MOST_PARTS) {
                return fail(WIDE);
            }
            facts.terms.addFunction(name, value);
            advance();
            return true;
        }

        private boolean readTerm() {
            if (facts.terms.count >= MOST_TERMS) {
                return fail(MANY);
            }
            advance();
            if (!isNewName()) {
                return false;
            }
            int name = value;
            advance();
            if (!isSign('=')) {
                return fail(FORM);
            }
            advance();
            if (!isName()) {
                return fail(FORM);
            }
            int f = facts.terms.functionNamed(value);
            if (f < 0) {
                return fail(NAME);
            }
            advance();
            if (!readParts(facts.terms.takes[f])) {
                return false;
            }
            facts.comeTerm(name, f, chosen[0], chosen[1], chosen[2]);
            return true;
        }

        private boolean readParts(int takes) {
            if (!isSign('(')) {
                boolean over = kind == END || isSign(';');
                return over && takes == 0 || fail(over ? COUNT : FORM);
            }
            for (int k = 0; k < takes && k < MOST_PARTS; k++) {
                advance();
                if (!isToldTerm()) {
                    return false;
                }
                chosen[k] = facts.terms.termNamed(value);
                advance();
                if (isSign(')')) {
                    if (k + 1 < takes) {
                        return fail(COUNT);
                    }
                    advance();
                    return true;
                }
                if (!isSign(',')) {
                    return fail(FORM);
                }
            }
            // here stands the ( of a FUNCTION that takes 0, or the , behind the last PART that it takes
            return fail(COUNT);
        }

        private boolean readTwo(boolean same) {
            advance();
            if (!isToldTerm()) {
                return false;
            }
            int first = facts.terms.termNamed(value);
            advance();
            if (!isToldTerm()) {
                return false;
            }
            int second = facts.terms.termNamed(value);
            if (same) {
                facts.comeSame(first, second);
            } else {
                facts.comeDiff(first, second);
            }
            advance();
            return true;
        }

        private boolean isName() {
            return kind == WORD && value != FUN && value != TERM && value != SAME && value != DIFF;
        }

        private boolean isNewName() {
            if (!isName()) {
                return fail(FORM);
            }
            boolean told = facts.terms.functionNamed(value) >= 0 || facts.terms.termNamed(value) >= 0;
            return !told || fail(NAME);
        }

        private boolean isToldTerm() {
            if (!isName()) {
                return fail(FORM);
            }
            return facts.terms.termNamed(value) >= 0 || fail(NAME);
        }

        private boolean isSign(char sign) {
            return kind == SIGN && value == sign;
        }

        private boolean fail(int fault) {
            found = fault;
            return false;
        }

        private void advance() {
            start = tape.behindBlanks(behind, end);
            if (start >= end) {
                see(END, 0, start);
            } else if (tape.isLetter(start)) {
                int last = tape.behindLetters(start, end);
                int word = tape.wordNumber(start, last);
                see(word == 0 ? WRONG : WORD, word, last);
            } else if (tape.isDigit(start)) {
                boolean two = start + 1 < end && tape.isDigit(start + 1);
                see(two ? WRONG : WHOLE, tape.row[start] - '0', start + 1);
            } else {
                byte sign = tape.row[start];
                boolean known = sign == ';' || sign == ',' || sign == '=' || sign == '(' || sign == ')';
                see(known ? SIGN : WRONG, sign, start + 1);
            }
        }

        private void see(int newKind, int newValue, int newBehind) {
            kind = newKind;
            value = newValue;
            behind = newBehind;
        }
    }

    /** FUNCTIONS and TERMS, and the pairs of TERMS that have the same FUNCTION. */
    private static final class Terms {
        final int[] takes = new int[MOST_FUNCTIONS];
        final int[] functionName = new int[MOST_FUNCTIONS];
        final int[] functionOf = new int[MOST_TERMS];
        /** 0 of a TERM without a NAME. */
        final int[] termName = new int[MOST_TERMS];
        final int[] deep = new int[MOST_TERMS];
        final int[] parts = new int[MOST_TERMS * MOST_PARTS];
        /** Of what each TERM is made, while GROUPS climb. */
        final int[] made = new int[MOST_TERMS];
        /** By the lower TERM, then by the higher one: the order in which pairs are looked for. */
        final int[] low = new int[MOST_PAIRS];
        final int[] high = new int[MOST_PAIRS];
        int functions;
        int count;
        int pairs;

        void clear() {
            functions = 0;
            count = 0;
            pairs = 0;
        }

        void addFunction(int name, int parts) {
            if (functions < MOST_FUNCTIONS) {
                functionName[functions] = name;
                takes[functions] = parts;
                functions++;
            }
        }

        /** A FUNCTION's number, and TERMS as many as it takes; the other ones aren't looked at. */
        void addTerm(int name, int f, int a, int b, int c) {
            if (count >= MOST_TERMS) {
                return;
            }
            int at = count * MOST_PARTS;
            parts[at] = a;
            parts[at + 1] = b;
            parts[at + 2] = c;
            termName[count] = name;
            functionOf[count] = f;
            int deepest = 0;
            for (int k = 0; k < takes[f]; k++) {
                deepest = Math.max(deepest, 1 + deep[parts[at + k]]);
            }
            deep[count] = deepest;
            count++;
            listPairs();
        }

        void dropTerm() {
            if (count > 0) {
                count--;
                listPairs();
            }
        }

        private void listPairs() {
            pairs = 0;
            for (int i = 0; i < count; i++) {
                for (int j = i + 1; j < count; j++) {
                    if (functionOf[i] == functionOf[j]) {
                        low[pairs] = i;
                        high[pairs] = j;
                        pairs++;
                    }
                }
            }
        }

        int functionNamed(int name) {
            for (int f = 0; f < functions; f++) {
                if (functionName[f] == name) {
                    return f;
                }
            }
            return NONE;
        }

        int termNamed(int name) {
            for (int t = 0; t < count && name > 0; t++) {
                if (termName[t] == name) {
                    return t;
                }
            }
            return NONE;
        }

        int partsOf(int t) {
            return takes[functionOf[t]];
        }

        int partAt(int t, int k) {
            return parts[t * MOST_PARTS + k];
        }

        int termsOf(int f) {
            int found = 0;
            for (int t = 0; t < count; t++) {
                if (functionOf[t] == f) {
                    found++;
                }
            }
            return found;
        }

        int groupsWith(int f, Groups groups) {
            int leads = 0;
            for (int t = 0; t < count; t++) {
                if (functionOf[t] == f) {
                    leads |= 1 << groups.lead[t];
                }
            }
            return Integer.bitCount(leads);
        }

        /** How many TERMS have a PART that is one with t. */
        int termsAbove(int t, Groups groups) {
            int found = 0;
            for (int s = 0; s < count; s++) {
                if ((partLeads(s, groups) >>> groups.lead[t] & 1) != 0) {
                    found++;
                }
            }
            return found;
        }

        /** The LEADS of a TERM's PARTS, as bits. */
        int partLeads(int t, Groups groups) {
            int leads = 0;
            for (int k = 0; k < partsOf(t); k++) {
                leads |= 1 << groups.lead[partAt(t, k)];
            }
            return leads;
        }

        /** Of a pair with the same FUNCTION: are the PARTS one each with each? */
        boolean alike(int pair, Groups groups) {
            int i = low[pair] * MOST_PARTS;
            int j = high[pair] * MOST_PARTS;
            int takenParts = takes[functionOf[low[pair]]];
            for (int k = 0; k < takenParts; k++) {
                if (groups.lead[parts[i + k]] != groups.lead[parts[j + k]]) {
                    return false;
                }
            }
            return true;
        }

        /** The first pair that is to be joined for its PARTS; NONE if there is none. */
        int nextPair(Groups groups) {
            for (int pair = 0; pair < pairs; pair++) {
                if (!groups.one(low[pair], high[pair]) && alike(pair, groups)) {
                    return pair;
                }
            }
            return NONE;
        }

        /** Unites all that become one by PARTS, in whatever order. */
        void close(Groups groups) {
            boolean more = true;
            for (int round = 0; more && round <= MOST_TERMS; round++) {
                int before = groups.groups;
                climb(groups, groups);
                more = groups.groups < before;
            }
        }

        /** Unites in the second GROUPS each pair of which the PARTS are one in the first. */
        void climb(Groups below, Groups above) {
            for (int t = 0; t < count; t++) {
                made[t] = madeOf(t, below);
            }
            for (int pair = 0; pair < pairs; pair++) {
                if (made[low[pair]] == made[high[pair]]) {
                    above.unite(low[pair], high[pair]);
                }
            }
        }

        /** The LEADS of the PARTS as one number, so that a pair is looked at by one comparison. */
        private int madeOf(int t, Groups groups) {
            int leads = 0;
            for (int k = 0; k < takes[functionOf[t]]; k++) {
                leads = leads * MOST_TERMS + groups.lead[parts[t * MOST_PARTS + k]];
            }
            return leads;
        }
    }

    /** Which TERMS are one: each knows the LEAD of its GROUP. */
    private static final class Groups {
        final int[] lead = new int[MOST_TERMS];
        int terms;
        int groups;

        void partAll(int n) {
            terms = 0;
            groups = 0;
            for (int t = 0; t < n; t++) {
                addLone();
            }
        }

        void addLone() {
            if (terms < MOST_TERMS) {
                lead[terms] = terms;
                terms++;
                groups++;
            }
        }

        void copyFrom(Groups other) {
            System.arraycopy(other.lead, 0, lead, 0, MOST_TERMS);
            terms = other.terms;
            groups = other.groups;
        }

        boolean one(int i, int j) {
            return lead[i] == lead[j];
        }

        void unite(int i, int j) {
            int kept = Math.min(lead[i], lead[j]);
            int gone = Math.max(lead[i], lead[j]);
            if (kept == gone) {
                return;
            }
            for (int t = gone; t < terms; t++) {
                if (lead[t] == gone) {
                    lead[t] = kept;
                }
            }
            groups--;
        }

        int members(int t) {
            int found = 0;
            for (int s = 0; s < terms; s++) {
                if (one(s, t)) {
                    found++;
                }
            }
            return found;
        }
    }

    /** JOINS in order, and THE FOREST that they make. */
    private static final class Forest {
        final int[] hangsOn = new int[MOST_TERMS];
        /** The JOIN by which a TERM hangs; without meaning for one that hangs on none. */
        final int[] hangsBy = new int[MOST_TERMS];
        final int[] joinFirst = new int[MOST_TERMS];
        final int[] joinSecond = new int[MOST_TERMS];
        /** A JOIN's SAME; NONE if its cause are PARTS. */
        final int[] cause = new int[MOST_TERMS];
        /** REASONS for a JOIN: no later JOIN changes which ones lie between its PARTS. */
        final int[] reasonBits = new int[MOST_TERMS];
        int terms;
        int joins;

        void clear() {
            terms = 0;
            joins = 0;
        }

        void addLone() {
            if (terms < MOST_TERMS) {
                hangsOn[terms] = NONE;
                hangsBy[terms] = NONE;
                terms++;
            }
        }

        void addJoin(int a, int b, int same, int bits) {
            if (joins >= MOST_TERMS) {
                return;
            }
            joinFirst[joins] = a;
            joinSecond[joins] = b;
            cause[joins] = same;
            reasonBits[joins] = bits;
            hang(joins);
            joins++;
        }

        /** Turns round the way from the JOIN's second TERM, which then hangs on its first. */
        private void hang(int join) {
            int on = joinFirst[join];
            int by = join;
            int t = joinSecond[join];
            for (int step = 0; step < MOST_TERMS && t >= 0; step++) {
                int above = hangsOn[t];
                int aboveBy = hangsBy[t];
                hangsOn[t] = on;
                hangsBy[t] = by;
                on = t;
                by = aboveBy;
                t = above;
            }
        }

        /** Back to how it was with fewer TERMS or fewer JOINS. */
        void cutBack(int fewerTerms, int fewerJoins) {
            terms = 0;
            for (int t = 0; t < fewerTerms; t++) {
                addLone();
            }
            joins = fewerJoins;
            for (int k = 0; k < joins; k++) {
                hang(k);
            }
        }

        int stepsUp(int t) {
            int steps = 0;
            for (int at = hangsOn[t]; at >= 0 && steps < MOST_TERMS; at = hangsOn[at]) {
                steps++;
            }
            return steps;
        }

        int hangingOn(int t, int i) {
            int seen = 0;
            for (int s = 0; s < terms; s++) {
                if (hangsOn[s] == t) {
                    if (seen == i) {
                        return s;
                    }
                    seen++;
                }
            }
            return BEYOND;
        }

        /** REASONS for two TERMS that are one. */
        int reasonsBetween(int t, int u) {
            int ahead = 1 << t;
            int at = t;
            for (int step = 0; step < MOST_TERMS && hangsOn[at] >= 0; step++) {
                at = hangsOn[at];
                ahead |= 1 << at;
            }
            int bits = 0;
            int meet = u;
            for (int step = 0; step < MOST_TERMS && (ahead >>> meet & 1) == 0 && hangsOn[meet] >= 0; step++) {
                bits |= reasonBits[hangsBy[meet]];
                meet = hangsOn[meet];
            }
            at = t;
            for (int step = 0; step < MOST_TERMS && at != meet && hangsOn[at] >= 0; step++) {
                bits |= reasonBits[hangsBy[at]];
                at = hangsOn[at];
            }
            return bits;
        }
    }

    /** All that is told, with the acts that can be undone. */
    private static final class Facts {
        static final int JOINED = 0;
        static final int PARTED = 1;
        static final int MADE = 2;

        final Terms terms = new Terms();
        final Groups groups = new Groups();
        final Forest forest = new Forest();
        final int[] sameFirst = new int[MOST_SAMES];
        final int[] sameSecond = new int[MOST_SAMES];
        final int[] diffFirst = new int[MOST_DIFFS];
        final int[] diffSecond = new int[MOST_DIFFS];
        final int[] actKind = new int[MOST_ACTS];
        final int[] joinsAhead = new int[MOST_ACTS];
        int sames;
        int diffs;
        int acts;

        void clear() {
            terms.clear();
            groups.partAll(0);
            forest.clear();
            sames = 0;
            diffs = 0;
            acts = 0;
        }

        void comeTerm(int name, int f, int a, int b, int c) {
            terms.addTerm(name, f, a, b, c);
            groups.addLone();
            forest.addLone();
            closeInOrder();
        }

        void comeSame(int a, int b) {
            if (sames >= MOST_SAMES) {
                return;
            }
            sameFirst[sames] = a;
            sameSecond[sames] = b;
            sames++;
            if (!groups.one(a, b)) {
                forest.addJoin(a, b, sames - 1, 1 << (sames - 1));
                groups.unite(a, b);
                closeInOrder();
            }
        }

        void comeDiff(int a, int b) {
            if (diffs < MOST_DIFFS) {
                diffFirst[diffs] = a;
                diffSecond[diffs] = b;
                diffs++;
            }
        }

        private void closeInOrder() {
            int pair = terms.nextPair(groups);
            for (int n = 0; n < MOST_TERMS && pair >= 0; n++) {
                int i = terms.low[pair];
                int j = terms.high[pair];
                forest.addJoin(i, j, NONE, partReasons(i, j));
                groups.unite(i, j);
                pair = terms.nextPair(groups);
            }
        }

        private int partReasons(int i, int j) {
            int bits = 0;
            for (int k = 0; k < terms.partsOf(i); k++) {
                bits |= forest.reasonsBetween(terms.partAt(i, k), terms.partAt(j, k));
            }
            return bits;
        }

        void noteAct(int kind) {
            if (acts < MOST_ACTS) {
                actKind[acts] = kind;
                joinsAhead[acts] = forest.joins;
                acts++;
            }
        }

        void undoLatest() {
            if (acts == 0) {
                return;
            }
            acts--;
            if (actKind[acts] == JOINED) {
                sames--;
            } else if (actKind[acts] == PARTED) {
                diffs--;
            } else {
                terms.dropTerm();
            }
            forest.cutBack(terms.count, joinsAhead[acts]);
            groups.partAll(terms.count);
            for (int k = 0; k < forest.joins; k++) {
                groups.unite(forest.joinFirst[k], forest.joinSecond[k]);
            }
        }

        int allSames() {
            return (1 << sames) - 1;
        }

        /** Fills GROUPS with what is one BY a set of SAMES. */
        void closeBy(int set, Groups by) {
            by.partAll(terms.count);
            for (int k = 0; k < sames; k++) {
                if ((set >>> k & 1) != 0) {
                    by.unite(sameFirst[k], sameSecond[k]);
                }
            }
            terms.close(by);
        }

        /** In GROUPS that are closed: what is one with a SAME more. */
        void supposeSame(int a, int b, Groups by) {
            if (!by.one(a, b)) {
                by.unite(a, b);
                terms.close(by);
            }
        }

        boolean clashes(int diff, Groups by) {
            return by.one(diffFirst[diff], diffSecond[diff]);
        }

        int firstClash(Groups by) {
            for (int k = 0; k < diffs; k++) {
                if (clashes(k, by)) {
                    return k;
                }
            }
            return BEYOND;
        }

        boolean keptApart(int t, int u) {
            for (int k = 0; k < diffs; k++) {
                int a = diffFirst[k];
                int b = diffSecond[k];
                if (groups.one(t, a) && groups.one(u, b) || groups.one(t, b) && groups.one(u, a)) {
                    return true;
                }
            }
            return false;
        }
    }

    /** The sets of SAMES BY which two TERMS are one, of those SAMES that can bear on the two. */
    private static final class Proofs {
        /** Row k holds what is one BY a set of which the SAMES below the k-th picked one are still open. */
        final Groups[] rows = new Groups[MOST_SAMES + 1];
        final int[] picks = new int[MOST_SAMES];
        /** Bits, one for each set of picked SAMES: are the two one BY it? Of sets with an idle SAME it may be untold. */
        final long[] holding = new long[1 << (MOST_SAMES - 6)];
        int picked;
        int first;
        int second;
        /** Is just the set of the fewest SAMES looked for? Then it has fewer than below. */
        boolean fewestAlone;
        int below;
        int best;

        Proofs() {
            for (int k = 0; k <= MOST_SAMES; k++) {
                rows[k] = new Groups();
            }
        }

        /** The set of the fewest SAMES, of like many the least number; NONE if it has more than most. */
        int fewestSames(Facts facts, int t, int u, int most) {
            begin(facts, t, u);
            fewestAlone = true;
            below = most + 1;
            best = NONE;
            visit(facts, picked, 0);
            if (best < 0) {
                return NONE;
            }
            int sames = 0;
            for (int k = 0; k < picked; k++) {
                sames |= (best >>> k & 1) << picks[k];
            }
            return sames;
        }

        /** How many sets there are of which no SAME can be left out. */
        int leastSets(Facts facts, int t, int u) {
            begin(facts, t, u);
            fewestAlone = false;
            below = MOST_SAMES + 1;
            for (int n = 0; n < holding.length; n++) {
                holding[n] = 0;
            }
            visit(facts, picked, 0);
            int found = 0;
            for (int set = 0; set < 1 << picked; set++) {
                if (holds(set) && !holdsWithLess(set)) {
                    found++;
                }
            }
            return found;
        }

        private void begin(Facts facts, int t, int u) {
            first = t;
            second = u;
            pickBearing(facts);
            facts.closeBy(0, rows[picked]);
        }

        /** SAMES of other GROUPS than the two's, those of what these are made of, and so on, can't bear on them. */
        private void pickBearing(Facts facts) {
            int leads = 1 << facts.groups.lead[first];
            int before = 0;
            for (int round = 0; round <= MOST_TERMS && leads != before; round++) {
                before = leads;
                for (int t = 0; t < facts.terms.count; t++) {
                    if ((leads >>> facts.groups.lead[t] & 1) != 0) {
                        leads |= facts.terms.partLeads(t, facts.groups);
                    }
                }
            }
            picked = 0;
            for (int k = 0; k < facts.sames; k++) {
                if ((leads >>> facts.groups.lead[facts.sameFirst[k]] & 1) != 0) {
                    picks[picked] = k;
                    picked++;
                }
            }
        }

        /** Row open is closed BY set; the lowest open picks are still to be chosen, and all of them would do. */
        private void visit(Facts facts, int open, int set) {
            if (rows[open].one(first, second)) {
                note(set, 1 << open);
                return;
            }
            if (open == 0 || Integer.bitCount(set) + 1 >= below) {
                return;
            }
            int chosen = open - 1;
            int a = facts.sameFirst[picks[chosen]];
            int b = facts.sameSecond[picks[chosen]];
            // a SAME is idle beside others BY which its two are one already: no set that is told has it with these
            boolean idle = rows[open].one(a, b);
            if (idle || canDoWithout(facts, chosen)) {
                rows[chosen].copyFrom(rows[open]);
                visit(facts, chosen, set);
            }
            if (!idle && Integer.bitCount(set) + 1 < below) {
                rows[chosen].copyFrom(rows[open]);
                facts.supposeSame(a, b, rows[chosen]);
                visit(facts, chosen, set | 1 << chosen);
            }
        }

        /** The two are one BY a set, whatever comes to it of the picks still open: BY so many sets, from its number on. */
        private void note(int set, int howMany) {
            if (fewestAlone) {
                // sets come in the order of their numbers, so that of like many the least came first
                best = set;
                below = Integer.bitCount(set);
                return;
            }
            for (int n = set; n < set + howMany; n++) {
                holding[n >>> 6] |= 1L << (n & 63);
            }
        }

        /** Would all picks below one do, without that one? */
        private boolean canDoWithout(Facts facts, int left) {
            rows[left].copyFrom(rows[left + 1]);
            for (int k = 0; k < left; k++) {
                rows[left].unite(facts.sameFirst[picks[k]], facts.sameSecond[picks[k]]);
            }
            facts.terms.close(rows[left]);
            return rows[left].one(first, second);
        }

        private boolean holds(int set) {
            return (holding[set >>> 6] >>> (set & 63) & 1) != 0;
        }

        private boolean holdsWithLess(int set) {
            for (int k = 0; k < picked; k++) {
                if ((set >>> k & 1) != 0 && holds(set & ~(1 << k))) {
                    return true;
                }
            }
            return false;
        }
    }

    /** COSTS of all that are one, and ways of the least COST. */
    private static final class Costs {
        private static final int NO_WAY = TOP_SUM + 1;

        /** Of two TERMS the COST as far as it is known; TOP_SUM where none is known, as of two that aren't one. */
        final int[] sums = new int[MOST_TERMS * MOST_TERMS];
        /** Of two TERMS side by side what that step costs; NO_WAY of others. */
        final int[] steps = new int[MOST_TERMS * MOST_TERMS];
        /** Row h: the least sum from each TERM to the one that is asked for, in h steps at most. */
        final int[] rest = new int[MOST_TERMS * MOST_TERMS];
        int terms;
        boolean settled;

        int least(int t, int u) {
            return sums[t * MOST_TERMS + u];
        }

        void settle(Facts facts) {
            if (settled) {
                return;
            }
            terms = facts.terms.count;
            for (int at = 0; at < sums.length; at++) {
                sums[at] = TOP_SUM;
                steps[at] = NO_WAY;
            }
            for (int t = 0; t < terms; t++) {
                sums[t * MOST_TERMS + t] = 0;
            }
            for (int k = 0; k < facts.sames; k++) {
                lay(facts.sameFirst[k], facts.sameSecond[k], 1);
                pave(facts.sameFirst[k], facts.sameSecond[k], 1);
            }
            layPairs(facts);
            settled = true;
        }

        /** Shorter PARTS make shorter pairs, which make shorter PARTS: until nothing gets shorter. */
        private void layPairs(Facts facts) {
            boolean shorter = true;
            for (int round = 0; shorter && round < 1000000; round++) {
                shorter = false;
                for (int pair = 0; pair < facts.terms.pairs; pair++) {
                    if (facts.terms.alike(pair, facts.groups)) {
                        int i = facts.terms.low[pair];
                        int j = facts.terms.high[pair];
                        int sum = partSums(facts.terms, i, j);
                        pave(i, j, sum);
                        shorter |= lay(i, j, sum);
                    }
                }
            }
        }

        private int partSums(Terms told, int i, int j) {
            int sum = 0;
            for (int k = 0; k < told.partsOf(i); k++) {
                sum = plus(sum, least(told.partAt(i, k), told.partAt(j, k)));
            }
            return sum;
        }

        private int plus(int sum, int more) {
            return Math.min(TOP_SUM, sum + more);
        }

        private void pave(int i, int j, int sum) {
            int step = Math.min(sum, steps[i * MOST_TERMS + j]);
            steps[i * MOST_TERMS + j] = step;
            steps[j * MOST_TERMS + i] = step;
        }

        /** A step between two TERMS, and all ways that get shorter by it: did that between the two? */
        private boolean lay(int i, int j, int sum) {
            if (sum >= least(i, j)) {
                return false;
            }
            for (int t = 0; t < terms; t++) {
                int byFirst = plus(least(t, i), sum);
                int bySecond = plus(least(t, j), sum);
                for (int u = 0; u < terms; u++) {
                    int by = Math.min(plus(byFirst, least(j, u)), plus(bySecond, least(i, u)));
                    sums[t * MOST_TERMS + u] = Math.min(least(t, u), by);
                }
            }
            return true;
        }

        int termOnWay(int t, int u, int i) {
            int far = stepsOnWay(t, u);
            if (i > far) {
                return BEYOND;
            }
            int at = t;
            int gone = 0;
            for (int left = far - 1; left >= far - i && left >= 0; left--) {
                int onward = nextOnWay(at, gone, left, least(t, u));
                gone = plus(gone, steps[at * MOST_TERMS + onward]);
                at = onward;
            }
            return at;
        }

        /** How many steps the way has that is told: the fewest with which the sum is the COST; the rows are filled. */
        private int stepsOnWay(int t, int u) {
            for (int s = 0; s < terms; s++) {
                rest[s] = s == u ? 0 : NO_WAY;
            }
            int far = 0;
            for (; far + 1 < terms && rest[far * MOST_TERMS + t] != least(t, u); far++) {
                fillRow(far);
            }
            return far;
        }

        private void fillRow(int row) {
            for (int s = 0; s < terms; s++) {
                int best = rest[row * MOST_TERMS + s];
                for (int v = 0; v < terms; v++) {
                    best = Math.min(best, onwardSum(0, s, v, row));
                }
                rest[(row + 1) * MOST_TERMS + s] = best;
            }
        }

        /** The sum of a way that has come so far, steps to v and goes on from there as well as it can. */
        private int onwardSum(int gone, int s, int v, int row) {
            int step = steps[s * MOST_TERMS + v];
            int onward = rest[row * MOST_TERMS + v];
            if (step == NO_WAY || onward == NO_WAY) {
                return NO_WAY;
            }
            return plus(plus(gone, step), onward);
        }

        private int nextOnWay(int s, int gone, int row, int sum) {
            for (int v = 0; v < terms; v++) {
                if (onwardSum(gone, s, v, row) == sum) {
                    return v;
                }
            }
            return s;
        }
    }
}
