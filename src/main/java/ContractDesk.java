/**
 * Contracts put together of clauses that are chosen by answers; ../shared/DOC.md says what each
 * method promises.
 *
 * <p>There are only 64 ways to answer all six questions. So whatever hangs on the answers is held
 * as a long with one bit for each way (a TABLE: bit a is what is so by the full answers a), and is
 * reckoned for all ways at once whenever the contract or what is struck changes.
 */
public final class ContractDesk {
    public static final int NONE = -1, UNKNOWN = -1000000001, OUTSIDE = -1000000002, NOT = -1000000003, FULL = -1000000004;

    private static final int QUESTIONS = 6;
    private static final int TERMS = 8;
    private static final int CLAUSES = 16;
    private static final int PARTS = 30;
    private static final int LETTERS = 240;
    private static final int FULL_ANSWERS = 64;
    private static final int UNDOS = 8;
    private static final int IMAGES = 2;

    private static final int DEFINES = 0;
    private static final int USES = 1;
    private static final int REFERS = 2;

    /** The table of "yes to question q", for each q. */
    private static final long[] YES_TO = {
        0xAAAAAAAAAAAAAAAAL, 0xCCCCCCCCCCCCCCCCL, 0xF0F0F0F0F0F0F0F0L,
        0xFF00FF00FF00FF00L, 0xFFFF0000FFFF0000L, 0xFFFFFFFF00000000L};

    private final Reader reader;
    private final Deed deed;
    private final Standing standing;
    private final History history;
    private final int[] images;
    private final Outcomes outcomes;
    private final Outlook outlook;
    private final Script script;

    public ContractDesk() {
        reader = new Reader();
        deed = new Deed();
        standing = new Standing();
        history = new History();
        images = new int[IMAGES];
        forgetImages();
        outcomes = new Outcomes(deed);
        outlook = new Outlook(deed, outcomes, standing);
        script = new Script(deed);
    }

    // ---- the contract

    public int feed(int letter) {
        if (letter < 0 || letter > 255) {
            return OUTSIDE;
        }
        return reader.takeLetter(letter) ? reader.length : FULL;
    }

    public int contract() {
        int found = reader.readText();
        if (found != Reader.FAULTLESS) {
            return -10 - found;
        }
        deed.takeOver(reader.draft);
        standing.struck = 0;
        forgetImages();
        history.clear();
        outcomes.reckon(standing.struck);
        return deed.clauses;
    }

    public int fault() {
        return reader.faultAt;
    }

    // ---- answers

    public int answer(int q, boolean yes) {
        if (!isQuestion(q)) {
            return UNKNOWN;
        }
        int was = standing.answerTo(q);
        int becomes = yes ? 1 : 0;
        if (was == becomes) {
            return NOT;
        }
        history.push(standing.packed());
        standing.setAnswer(q, becomes);
        return was;
    }

    public int forget(int q) {
        if (!isQuestion(q)) {
            return UNKNOWN;
        }
        int was = standing.answerTo(q);
        if (was == NONE) {
            return NOT;
        }
        history.push(standing.packed());
        standing.setAnswer(q, NONE);
        return was;
    }

    public int strike(int c, boolean is) {
        if (!isClause(c)) {
            return UNKNOWN;
        }
        if (has(standing.struck, c) == is) {
            return NOT;
        }
        history.push(standing.packed());
        standing.struck ^= 1 << c;
        outcomes.reckon(standing.struck);
        return Integer.bitCount(inForceNow());
    }

    public int drift(int seed) {
        if (seed < 1 || seed > 999999) {
            return OUTSIDE;
        }
        history.push(standing.packed());
        long x = seed;
        for (int q = 0; q < QUESTIONS; q++) {
            x = x * 16807L % 2147483647L;
            int lot = (int) (x % 3L);
            standing.setAnswer(q, lot == 2 ? NONE : lot);
        }
        return Integer.bitCount(inForceNow());
    }

    public int undo() {
        if (history.size == 0) {
            return NOT;
        }
        restore(history.pop());
        return history.size;
    }

    public int answerOf(int q) {
        return isQuestion(q) ? standing.answerTo(q) : UNKNOWN;
    }

    public int told(int what) {
        switch (what) {
            case 0: return deed.clauses;
            case 1: return deed.parts;
            case 2: return reader.length;
            case 3: return standing.answered;
            case 4: return inForceNow();
            case 5: return outlook.sure();
            case 6: return outlook.never();
            case 7: return outlook.open();
            case 8: return standing.struck;
            case 9: return outcomes.countWrong(standing.yes);
            case 10: return outlook.matters();
            case 11: return outlook.ways();
            case 12: return outlook.firstWay();
            case 13: return script.write(NONE, inForceNow()).signs;
            case 14: return history.size;
            default: return OUTSIDE;
        }
    }

    public int wrong(int what) {
        int now = standing.yes;
        switch (what) {
            case 0: return outcomes.countAmiss(USES, now);
            case 1: return outcomes.countAmiss(DEFINES, now);
            case 2: return outcomes.countIdle(now);
            case 3: return outcomes.countAmiss(REFERS, now);
            case 4: return outcomes.roundTerms(now);
            case 5: return deed.ownerOf(outcomes.firstAmiss(now));
            case 6: return outcomes.firstAmiss(now);
            default: return OUTSIDE;
        }
    }

    // ---- clauses, terms

    public int clause(int c, int what) {
        if (!isClause(c)) {
            return UNKNOWN;
        }
        switch (what) {
            case 0: return deed.around[c];
            case 1: return deed.depth[c];
            case 2: return deed.within(c);
            case 3: return deed.wantsYes[c];
            case 4: return deed.wantsNo[c];
            case 5: return has(deed.called, c) ? 1 : 0;
            case 6: return deed.countOwnParts(c);
            case 7: return isSo(deed.holds(c), standing.yes) ? 1 : 0;
            case 8: return has(inForceNow(), c) ? 1 : 0;
            case 9: return deed.referring[c];
            default: return OUTSIDE;
        }
    }

    public int part(int c, int k, int what) {
        if (!isClause(c)) {
            return UNKNOWN;
        }
        if (k < 0 || what < 0 || what > 1) {
            return OUTSIDE;
        }
        int p = deed.ownPart(c, k);
        if (p == NONE) {
            return NONE;
        }
        return what == 0 ? deed.kind[p] : deed.value[p];
    }

    public int number(int c, int k) {
        if (!isClause(c)) {
            return UNKNOWN;
        }
        if (k < 0) {
            return OUTSIDE;
        }
        int inForce = inForceNow();
        if (!has(inForce, c) || k > deed.depth[c]) {
            return NONE;
        }
        return deed.place(deed.aroundAt(c, k), inForce);
    }

    public int hangs(int c, int what) {
        if (!isClause(c)) {
            return UNKNOWN;
        }
        switch (what) {
            case 0: return outlook.mattersFor(c);
            case 1: return outlook.settles(c);
            case 2: return outlook.brings(c);
            case 3: return outlook.surety(c);
            default: return OUTSIDE;
        }
    }

    public int term(int t, int what) {
        if (t < 0 || t >= TERMS) {
            return UNKNOWN;
        }
        int now = standing.yes;
        switch (what) {
            case 0: return outcomes.countParts(DEFINES, t, now);
            case 1: return outcomes.countParts(USES, t, now);
            case 2: return deed.ownerOf(outcomes.firstDefinition(t, now));
            case 3: return has(outcomes.roundTerms(now), t) ? 1 : 0;
            case 4: return outcomes.hangsOn(t, now);
            default: return OUTSIDE;
        }
    }

    public int by(int answers, int what) {
        if (answers < 0 || answers >= FULL_ANSWERS) {
            return OUTSIDE;
        }
        switch (what) {
            case 0: return outcomes.inForce(answers);
            case 1: return outcomes.countWrong(answers);
            default: return OUTSIDE;
        }
    }

    public int sign(int i) {
        return i < 0 ? OUTSIDE : script.write(i, inForceNow()).found;
    }

    // ---- images

    public int keep(int i) {
        if (!isImage(i)) {
            return UNKNOWN;
        }
        images[i] = standing.packed();
        history.clear();
        return 1;
    }

    public int goBack(int i) {
        if (!isImage(i)) {
            return UNKNOWN;
        }
        if (images[i] == NONE) {
            return NOT;
        }
        restore(images[i]);
        history.clear();
        return 1;
    }

    private void restore(int packed) {
        int struckBefore = standing.struck;
        standing.unpack(packed);
        if (standing.struck != struckBefore) {
            outcomes.reckon(standing.struck);
        }
    }

    private void forgetImages() {
        for (int i = 0; i < IMAGES; i++) {
            images[i] = NONE;
        }
    }

    /** What has no answer counts as no, so the set of yeses is the full answers of now. */
    private int inForceNow() {
        return outcomes.inForce(standing.yes);
    }

    private boolean isClause(int c) {
        return c >= 0 && c < deed.clauses;
    }

    private static boolean isQuestion(int q) {
        return q >= 0 && q < QUESTIONS;
    }

    private static boolean isImage(int i) {
        return i >= 0 && i < IMAGES;
    }

    private static boolean has(int set, int k) {
        return (set >>> k & 1) != 0;
    }

    private static boolean isSo(long table, int answers) {
        return (table >>> answers & 1L) != 0L;
    }

    /** The table of the full answers that say yes to the questions in yes, no to the others in asked. */
    private static long agreeing(int asked, int yes) {
        long table = -1L;
        for (int q = 0; q < QUESTIONS; q++) {
            int bit = 1 << q;
            if ((asked & bit) != 0) {
                table &= (yes & bit) != 0 ? YES_TO[q] : ~YES_TO[q];
            }
        }
        return table;
    }

    /** The contract as it was told: clauses as they begin, parts in the order of the text. */
    private static final class Deed {
        int clauses;
        int parts;
        int called;
        final int[] around = new int[CLAUSES];
        final int[] depth = new int[CLAUSES];
        final int[] wantsYes = new int[CLAUSES];
        final int[] wantsNo = new int[CLAUSES];
        final int[] referring = new int[CLAUSES];
        final int[] termsUsed = new int[CLAUSES];
        final int[] kind = new int[PARTS];
        final int[] value = new int[PARTS];
        final int[] owner = new int[PARTS];

        void clear() {
            clauses = 0;
            parts = 0;
            called = 0;
            // A reference may come ahead of its clause, so these rows are filled before the clause is.
            for (int c = 0; c < CLAUSES; c++) {
                referring[c] = 0;
                termsUsed[c] = 0;
            }
        }

        void takeOver(Deed other) {
            clauses = other.clauses;
            parts = other.parts;
            called = other.called;
            System.arraycopy(other.around, 0, around, 0, CLAUSES);
            System.arraycopy(other.depth, 0, depth, 0, CLAUSES);
            System.arraycopy(other.wantsYes, 0, wantsYes, 0, CLAUSES);
            System.arraycopy(other.wantsNo, 0, wantsNo, 0, CLAUSES);
            System.arraycopy(other.referring, 0, referring, 0, CLAUSES);
            System.arraycopy(other.termsUsed, 0, termsUsed, 0, CLAUSES);
            System.arraycopy(other.kind, 0, kind, 0, PARTS);
            System.arraycopy(other.value, 0, value, 0, PARTS);
            System.arraycopy(other.owner, 0, owner, 0, PARTS);
        }

        /** The new clause's number; NONE, if there is no room. */
        int addClause(int aroundIt) {
            if (clauses >= CLAUSES) {
                return NONE;
            }
            int c = clauses;
            around[c] = aroundIt;
            depth[c] = aroundIt >= 0 && aroundIt < c ? depth[aroundIt] + 1 : 0;
            wantsYes[c] = 0;
            wantsNo[c] = 0;
            clauses++;
            return c;
        }

        void addPart(int c, int partKind, int partValue) {
            if (parts >= PARTS || c < 0 || c >= clauses) {
                return;
            }
            kind[parts] = partKind;
            value[parts] = partValue;
            owner[parts] = c;
            parts++;
            if (partKind == USES) {
                termsUsed[c] |= 1 << partValue;
            }
            if (partKind == REFERS && partValue >= 0 && partValue < CLAUSES) {
                referring[partValue] |= 1 << c;
            }
        }

        int ownerOf(int p) {
            return p >= 0 && p < parts ? owner[p] : NONE;
        }

        int within(int c) {
            int set = 0;
            for (int other = 0; other < clauses; other++) {
                if (around[other] == c) {
                    set |= 1 << other;
                }
            }
            return set;
        }

        int countOwnParts(int c) {
            int count = 0;
            for (int p = 0; p < parts; p++) {
                if (owner[p] == c) {
                    count++;
                }
            }
            return count;
        }

        int ownPart(int c, int k) {
            int ahead = 0;
            for (int p = 0; p < parts; p++) {
                if (owner[p] == c) {
                    if (ahead == k) {
                        return p;
                    }
                    ahead++;
                }
            }
            return NONE;
        }

        long holds(int c) {
            return agreeing(wantsYes[c] | wantsNo[c], wantsYes[c]);
        }

        /** The clause at the given depth that clause c stands in, or c itself. */
        int aroundAt(int c, int wantedDepth) {
            int at = c;
            for (int step = 0; step < CLAUSES && at >= 0 && at < clauses && depth[at] > wantedDepth; step++) {
                at = around[at];
            }
            return at;
        }

        /** Clause c's place, from 1 on, among those in force that stand in the same one. */
        int place(int c, int inForce) {
            if (c < 0 || c >= clauses) {
                return 0;
            }
            int count = 0;
            for (int other = 0; other <= c; other++) {
                if (around[other] == around[c] && has(inForce, other)) {
                    count++;
                }
            }
            return count;
        }
    }

    /** Gathers the text and reads it, up to its first fault, into a draft of its own. */
    private static final class Reader {
        static final int FAULTLESS = 0;
        static final int MISPLACED = 1;
        static final int OUT_OF_BOUNDS = 2;
        static final int TOO_MANY = 3;
        static final int TOLD_ALREADY = 4;
        static final int NO_SUCH_CLAUSE = 5;

        int length;
        int faultAt = NONE;
        final Deed draft = new Deed();
        private final int[] letters = new int[LETTERS];
        private final int[] valueAt = new int[PARTS];
        private int faultNumber;
        private int at;
        private int inside;

        boolean takeLetter(int letter) {
            if (length >= LETTERS) {
                return false;
            }
            letters[length] = letter;
            length++;
            return true;
        }

        /** The number of the text's fault; the text is empty afterwards. */
        int readText() {
            draft.clear();
            faultNumber = FAULTLESS;
            faultAt = NONE;
            at = 0;
            inside = NONE;
            skipBlanks();
            for (int word = 0; word < LETTERS && at < length && faultNumber == FAULTLESS; word++) {
                readWord();
                skipBlanks();
            }
            if (faultNumber == FAULTLESS && inside != NONE) {
                fail(MISPLACED, length);
            }
            if (faultNumber == FAULTLESS) {
                checkReferences();
            }
            length = 0;
            return faultNumber;
        }

        private void fail(int number, int letter) {
            faultNumber = number;
            faultAt = letter;
        }

        private int letterHere() {
            return at >= 0 && at < length ? letters[at] : NONE;
        }

        /** The figure that stands here; NONE, if none does. */
        private int figureHere() {
            if (at < 0 || at >= length) {
                return NONE;
            }
            int figure = letters[at] - '0';
            return figure >= 0 && figure <= 9 ? figure : NONE;
        }

        private void skipBlanks() {
            while (at >= 0 && at < length && letters[at] == ' ') {
                at++;
            }
        }

        private void readWord() {
            int word = letterHere();
            if (word == 'c') {
                readClauseHead();
            } else if (inside == NONE) {
                fail(MISPLACED, at);
            } else if (word == ')') {
                inside = inside < draft.clauses && inside >= 0 ? draft.around[inside] : NONE;
                at++;
            } else if (word == 'd' || word == 'u' || word == 'r') {
                readPart(word);
            } else {
                fail(MISPLACED, at);
            }
        }

        private void readClauseHead() {
            int c = draft.addClause(inside);
            if (c == NONE) {
                fail(TOO_MANY, at);
                return;
            }
            at++;
            skipBlanks();
            for (int q = 0; q <= QUESTIONS && isWantHere() && faultNumber == FAULTLESS; q++) {
                readWant(c);
                skipBlanks();
            }
            if (faultNumber != FAULTLESS) {
                return;
            }
            if (letterHere() == '*') {
                draft.called |= 1 << c;
                at++;
                skipBlanks();
            }
            if (letterHere() != '(') {
                fail(MISPLACED, at);
                return;
            }
            at++;
            inside = c;
        }

        private boolean isWantHere() {
            int letter = letterHere();
            return letter == '+' || letter == '-';
        }

        private void readWant(int c) {
            boolean yes = letterHere() == '+';
            at++;
            int q = readFigure(QUESTIONS);
            if (q == NONE) {
                return;
            }
            if (has(draft.wantsYes[c] | draft.wantsNo[c], q)) {
                fail(TOLD_ALREADY, at - 1);
            } else if (yes) {
                draft.wantsYes[c] |= 1 << q;
            } else {
                draft.wantsNo[c] |= 1 << q;
            }
        }

        private void readPart(int word) {
            if (draft.parts >= PARTS) {
                fail(TOO_MANY, at);
                return;
            }
            at++;
            if (word == 'r') {
                readReference();
                return;
            }
            int t = readFigure(TERMS);
            if (t != NONE) {
                draft.addPart(inside, word == 'd' ? DEFINES : USES, t);
            }
        }

        /** A number of one figure, below the bound; NONE with a fault told, if there is none such. */
        private int readFigure(int bound) {
            skipBlanks();
            int figure = figureHere();
            if (figure == NONE) {
                fail(MISPLACED, at);
                return NONE;
            }
            if (figure >= bound) {
                fail(OUT_OF_BOUNDS, at);
                return NONE;
            }
            at++;
            return figure;
        }

        private void readReference() {
            skipBlanks();
            int start = at;
            int c = 0;
            int figures = 0;
            // The third figure is a fault already: what comes behind it can't matter.
            while (figures < 3 && figureHere() != NONE) {
                c = c * 10 + figureHere();
                figures++;
                at++;
            }
            if (figures == 0) {
                fail(MISPLACED, start);
            } else if (figures > 2 || c >= CLAUSES) {
                fail(OUT_OF_BOUNDS, start);
            } else if (draft.parts < PARTS) {
                valueAt[draft.parts] = start;
                draft.addPart(inside, REFERS, c);
            }
        }

        /** Only now is it known how many clauses there are. */
        private void checkReferences() {
            for (int p = 0; p < draft.parts; p++) {
                if (draft.kind[p] == REFERS && draft.value[p] >= draft.clauses) {
                    fail(NO_SUCH_CLAUSE, valueAt[p]);
                    return;
                }
            }
        }
    }

    /** What calls can change and take back: the answers, and what is struck. */
    private static final class Standing {
        private static final int STRUCK_SHIFT = 2 * QUESTIONS;
        private static final int QUESTION_BITS = (1 << QUESTIONS) - 1;

        int answered;
        int yes;
        int struck;

        int answerTo(int q) {
            if (!has(answered, q)) {
                return NONE;
            }
            return has(yes, q) ? 1 : 0;
        }

        void setAnswer(int q, int becomes) {
            int bit = 1 << q;
            answered = becomes == NONE ? answered & ~bit : answered | bit;
            yes = becomes == 1 ? yes | bit : yes & ~bit;
        }

        /** All of it in one number, never below 0, so that keeping one makes no object. */
        int packed() {
            return struck << STRUCK_SHIFT | yes << QUESTIONS | answered;
        }

        void unpack(int packed) {
            answered = packed & QUESTION_BITS;
            yes = packed >>> QUESTIONS & QUESTION_BITS;
            struck = packed >>> STRUCK_SHIFT;
        }
    }

    /** The latest standings, each from before a change; the oldest gives way. */
    private static final class History {
        int size;
        private final int[] standings = new int[UNDOS];

        void clear() {
            size = 0;
        }

        void push(int packed) {
            if (size >= UNDOS) {
                System.arraycopy(standings, 1, standings, 0, UNDOS - 1);
                size = UNDOS - 1;
            }
            standings[size] = packed;
            size++;
        }

        /** Asked only where there is one. */
        int pop() {
            if (size <= 0) {
                return 0;
            }
            size--;
            return standings[size];
        }
    }

    /** What is in force and what is wrong, for all full answers at once. */
    private static final class Outcomes {
        private final Deed deed;
        private final long[] force = new long[CLAUSES];
        private final long[] amiss = new long[PARTS];
        private final long[] defined = new long[TERMS];
        private final long[] hang = new long[TERMS * TERMS];
        private final long[] reach = new long[TERMS * TERMS];

        Outcomes(Deed deed) {
            this.deed = deed;
        }

        void reckon(int struck) {
            reckonForce(struck);
            reckonAmiss();
            reckonHang();
            reckonReach();
        }

        /** The table of clause c being in force. */
        long forceOf(int c) {
            return c >= 0 && c < deed.clauses ? force[c] : 0L;
        }

        /**
         * From nothing upwards, so that clauses that only call one another stay out. By each
         * answers a turn adds a clause or is the last, so as many turns as clauses are enough.
         */
        private void reckonForce(int struck) {
            for (int c = 0; c < CLAUSES; c++) {
                force[c] = 0L;
            }
            boolean grew = true;
            for (int turn = 0; turn <= CLAUSES && grew; turn++) {
                grew = false;
                for (int c = 0; c < deed.clauses; c++) {
                    long becomes = has(struck, c) ? 0L : forceSoFar(c);
                    grew = grew || becomes != force[c];
                    force[c] = becomes;
                }
            }
        }

        private long forceSoFar(int c) {
            long table = deed.holds(c);
            if (deed.around[c] != NONE) {
                table &= forceOf(deed.around[c]);
            }
            if (has(deed.called, c)) {
                table &= anyForce(deed.referring[c] & ~(1 << c));
            }
            return table;
        }

        private long anyForce(int set) {
            long table = 0L;
            for (int c = 0; c < deed.clauses; c++) {
                if (has(set, c)) {
                    table |= force[c];
                }
            }
            return table;
        }

        private void reckonAmiss() {
            for (int t = 0; t < TERMS; t++) {
                defined[t] = 0L;
            }
            for (int p = 0; p < deed.parts; p++) {
                long here = forceOf(deed.owner[p]);
                int value = deed.value[p];
                if (deed.kind[p] == REFERS) {
                    amiss[p] = here & ~forceOf(value);
                } else if (value >= 0 && value < TERMS) {
                    boolean defines = deed.kind[p] == DEFINES;
                    amiss[p] = here & (defines ? defined[value] : ~defined[value]);
                    defined[value] |= defines ? here : 0L;
                }
            }
        }

        private void reckonHang() {
            for (int pair = 0; pair < TERMS * TERMS; pair++) {
                hang[pair] = 0L;
            }
            for (int p = 0; p < deed.parts; p++) {
                int c = deed.owner[p];
                int t = deed.value[p];
                if (deed.kind[p] == DEFINES && t >= 0 && t < TERMS && c >= 0 && c < CLAUSES) {
                    hangOnAll(t, deed.termsUsed[c], forceOf(c));
                }
            }
        }

        private void hangOnAll(int t, int used, long table) {
            for (int other = 0; other < TERMS; other++) {
                if (has(used, other)) {
                    hang[t * TERMS + other] |= table;
                }
            }
        }

        /** Which term comes to which over any number of others: a way through each term in turn is added. */
        private void reckonReach() {
            System.arraycopy(hang, 0, reach, 0, TERMS * TERMS);
            for (int over = 0; over < TERMS; over++) {
                for (int from = 0; from < TERMS; from++) {
                    long first = reach[from * TERMS + over];
                    for (int to = 0; to < TERMS && first != 0L; to++) {
                        reach[from * TERMS + to] |= first & reach[over * TERMS + to];
                    }
                }
            }
        }

        int inForce(int answers) {
            int set = 0;
            for (int c = 0; c < deed.clauses; c++) {
                if (isSo(force[c], answers)) {
                    set |= 1 << c;
                }
            }
            return set;
        }

        int roundTerms(int answers) {
            int set = 0;
            for (int t = 0; t < TERMS; t++) {
                if (isSo(reach[t * TERMS + t], answers)) {
                    set |= 1 << t;
                }
            }
            return set;
        }

        int hangsOn(int t, int answers) {
            int set = 0;
            for (int other = 0; other < TERMS; other++) {
                if (isSo(hang[t * TERMS + other], answers)) {
                    set |= 1 << other;
                }
            }
            return set;
        }

        int countAmiss(int kind, int answers) {
            int count = 0;
            for (int p = 0; p < deed.parts; p++) {
                if (deed.kind[p] == kind && isSo(amiss[p], answers)) {
                    count++;
                }
            }
            return count;
        }

        int firstAmiss(int answers) {
            for (int p = 0; p < deed.parts; p++) {
                if (isSo(amiss[p], answers)) {
                    return p;
                }
            }
            return NONE;
        }

        int countWrong(int answers) {
            return countAmiss(DEFINES, answers) + countAmiss(USES, answers) + countAmiss(REFERS, answers)
                + Integer.bitCount(roundTerms(answers));
        }

        /** The table of nothing being wrong. */
        long faultless() {
            long table = -1L;
            for (int p = 0; p < deed.parts; p++) {
                table &= ~amiss[p];
            }
            for (int t = 0; t < TERMS; t++) {
                table &= ~reach[t * TERMS + t];
            }
            return table;
        }

        int countParts(int kind, int value, int answers) {
            int count = 0;
            for (int p = 0; p < deed.parts; p++) {
                if (isInForce(p, kind, value, answers)) {
                    count++;
                }
            }
            return count;
        }

        int firstDefinition(int t, int answers) {
            for (int p = 0; p < deed.parts; p++) {
                if (isInForce(p, DEFINES, t, answers)) {
                    return p;
                }
            }
            return NONE;
        }

        int countIdle(int answers) {
            int count = 0;
            for (int t = 0; t < TERMS; t++) {
                if (countParts(DEFINES, t, answers) > 0 && countParts(USES, t, answers) == 0) {
                    count++;
                }
            }
            return count;
        }

        private boolean isInForce(int p, int kind, int value, int answers) {
            return deed.kind[p] == kind && deed.value[p] == value && isSo(forceOf(deed.owner[p]), answers);
        }
    }

    /** What the answers that there can be yet would bring. */
    private static final class Outlook {
        private final Deed deed;
        private final Outcomes outcomes;
        private final Standing standing;

        Outlook(Deed deed, Outcomes outcomes, Standing standing) {
            this.deed = deed;
            this.outcomes = outcomes;
            this.standing = standing;
        }

        private long possible() {
            return agreeing(standing.answered, standing.yes);
        }

        int sure() {
            return clausesOf(2);
        }

        int open() {
            return clausesOf(1);
        }

        int never() {
            return clausesOf(0);
        }

        private int clausesOf(int wanted) {
            int set = 0;
            for (int c = 0; c < deed.clauses; c++) {
                if (surety(c) == wanted) {
                    set |= 1 << c;
                }
            }
            return set;
        }

        /** 2 sure, 1 open, 0 never. */
        int surety(int c) {
            return suretyAmong(c, possible());
        }

        private int suretyAmong(int c, long among) {
            long in = outcomes.forceOf(c) & among;
            if (in == 0L) {
                return 0;
            }
            return in == among ? 2 : 1;
        }

        int brings(int c) {
            return Long.bitCount(outcomes.forceOf(c) & possible());
        }

        int ways() {
            return Long.bitCount(outcomes.faultless() & possible());
        }

        int firstWay() {
            long table = outcomes.faultless() & possible();
            for (int answers = 0; answers < FULL_ANSWERS; answers++) {
                if (isSo(table, answers)) {
                    return answers;
                }
            }
            return NONE;
        }

        int matters() {
            int set = 0;
            for (int c = 0; c < deed.clauses; c++) {
                set |= mattersFor(c);
            }
            return set;
        }

        int mattersFor(int c) {
            long table = outcomes.forceOf(c);
            long possible = possible();
            int set = 0;
            for (int q = 0; q < QUESTIONS; q++) {
                // Shifted so, what is so by yes to q lies at the bit of the same answers with no.
                long changed = (table >>> (1 << q) ^ table) & ~YES_TO[q] & possible;
                if (!has(standing.answered, q) && changed != 0L) {
                    set |= 1 << q;
                }
            }
            return set;
        }

        int settles(int c) {
            int fewest = QUESTIONS - Integer.bitCount(standing.answered);
            for (int chosen = 0; chosen < FULL_ANSWERS; chosen++) {
                boolean unasked = (chosen & standing.answered) == 0;
                if (unasked && Integer.bitCount(chosen) < fewest && couldSettle(c, chosen)) {
                    fewest = Integer.bitCount(chosen);
                }
            }
            return fewest;
        }

        private boolean couldSettle(int c, int chosen) {
            for (int yes = 0; yes < FULL_ANSWERS; yes++) {
                if ((yes & ~chosen) == 0) {
                    long among = agreeing(standing.answered | chosen, standing.yes | yes);
                    if (suretyAmong(c, among) != 1) {
                        return true;
                    }
                }
            }
            return false;
        }
    }

    /** Writes the contract out; it only counts the signs and holds the one that is asked for. */
    private static final class Script {
        private final Deed deed;
        int signs;
        int found;
        private int inForce;
        private int wanted;

        Script(Deed deed) {
            this.deed = deed;
        }

        Script write(int wantedSign, int inForceNow) {
            inForce = inForceNow;
            wanted = wantedSign;
            signs = 0;
            found = NONE;
            for (int c = 0; c < deed.clauses; c++) {
                if (has(inForce, c)) {
                    writeClause(c);
                }
            }
            return this;
        }

        private void writeClause(int c) {
            writeNumber(c);
            put(' ');
            for (int p = 0; p < deed.parts; p++) {
                if (deed.owner[p] == c) {
                    writePart(deed.kind[p], deed.value[p]);
                }
            }
            put(';');
        }

        private void writePart(int kind, int value) {
            if (kind == DEFINES) {
                put('A' + value);
            } else if (kind == USES) {
                put('a' + value);
            } else {
                put('[');
                if (has(inForce, value)) {
                    writeNumber(value);
                } else {
                    put('?');
                }
                put(']');
            }
        }

        private void writeNumber(int c) {
            if (c < 0 || c >= deed.clauses) {
                return;
            }
            for (int k = 0; k <= deed.depth[c]; k++) {
                if (k > 0) {
                    put('.');
                }
                writeFigures(deed.place(deed.aroundAt(c, k), inForce));
            }
        }

        /** A place is never over 16, so two figures are enough. */
        private void writeFigures(int place) {
            if (place >= 10) {
                put('0' + place / 10);
            }
            put('0' + place % 10);
        }

        private void put(int sign) {
            if (signs == wanted) {
                found = sign;
            }
            signs++;
        }
    }
}
