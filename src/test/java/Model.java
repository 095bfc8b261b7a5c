import java.util.ArrayDeque;
import java.util.ArrayList;
import java.util.Arrays;
import java.util.Deque;
import java.util.List;
import java.util.Set;
import java.util.TreeSet;
import java.util.function.IntPredicate;

/**
 * The document's words once more, as plainly as they go: every question is answered by going through
 * all full answers, one by one, with lists and sets. It shares no thought with ContractDesk's tables.
 */
final class Model {
    static final int NONE = -1, UNKNOWN = -1000000001, OUTSIDE = -1000000002, NOT = -1000000003, FULL = -1000000004;

    private static final class Clause {
        int number;
        Clause around;
        final Set<Integer> yes = new TreeSet<>();
        final Set<Integer> no = new TreeSet<>();
        boolean called;
        final List<Clause> subs = new ArrayList<>();
        final List<Part> parts = new ArrayList<>();
    }

    private static final class Part {
        char word;
        int value;
        int letter;
        Clause owner;
    }

    @SuppressWarnings("serial")
    private static final class Fault extends Exception {
        final int number;
        final int letter;

        Fault(int number, int letter) {
            this.number = number;
            this.letter = letter;
        }
    }

    private static final class State {
        final Integer[] answers = new Integer[6];
        final Set<Integer> struck = new TreeSet<>();

        State copy() {
            State copy = new State();
            System.arraycopy(answers, 0, copy.answers, 0, 6);
            copy.struck.addAll(struck);
            return copy;
        }
    }

    /** What is so by one set of full answers. */
    private final class Look {
        final Set<Integer> force;
        final List<Part> inForce = new ArrayList<>();
        final List<Part> bare = new ArrayList<>();
        final List<Part> doubled = new ArrayList<>();
        final List<Part> dangling = new ArrayList<>();
        final Set<Integer> round = new TreeSet<>();
        int idle;

        Look(int answers) {
            force = leastForce(answers);
            for (Part part : parts) {
                if (force.contains(part.owner.number)) {
                    inForce.add(part);
                }
            }
            for (int i = 0; i < inForce.size(); i++) {
                Part part = inForce.get(i);
                boolean ahead = inForce.subList(0, i).stream().anyMatch(p -> p.word == 'd' && p.value == part.value);
                if (part.word == 'u' && !ahead) {
                    bare.add(part);
                }
                if (part.word == 'd' && ahead) {
                    doubled.add(part);
                }
                if (part.word == 'r' && !force.contains(part.value)) {
                    dangling.add(part);
                }
            }
            for (int t = 0; t < 8; t++) {
                if (count('d', t) > 0 && count('u', t) == 0) {
                    idle++;
                }
                if (comesTo(t, t)) {
                    round.add(t);
                }
            }
        }

        int count(char word, int t) {
            return (int) inForce.stream().filter(p -> p.word == word && p.value == t).count();
        }

        Set<Integer> hangsOn(int t) {
            Set<Integer> on = new TreeSet<>();
            for (Part part : inForce) {
                if (part.word == 'd' && part.value == t) {
                    part.owner.parts.stream().filter(p -> p.word == 'u').forEach(p -> on.add(p.value));
                }
            }
            return on;
        }

        boolean comesTo(int from, int to) {
            Set<Integer> seen = new TreeSet<>();
            Deque<Integer> next = new ArrayDeque<>(hangsOn(from));
            while (!next.isEmpty()) {
                int t = next.pop();
                if (seen.add(t)) {
                    next.addAll(hangsOn(t));
                }
            }
            return seen.contains(to);
        }

        int wrong() {
            return bare.size() + doubled.size() + dangling.size() + round.size();
        }

        Part firstWrong() {
            for (Part part : parts) {
                if (bare.contains(part) || doubled.contains(part) || dangling.contains(part)) {
                    return part;
                }
            }
            return null;
        }

        List<Integer> number(Clause clause) {
            List<Integer> number = clause.around == null ? new ArrayList<>() : number(clause.around);
            List<Clause> row = clause.around == null ? outer : clause.around.subs;
            int place = 0;
            for (Clause other : row) {
                if (force.contains(other.number)) {
                    place++;
                }
                if (other == clause) {
                    break;
                }
            }
            number.add(place);
            return number;
        }

        String numberText(Clause clause) {
            List<String> figures = new ArrayList<>();
            number(clause).forEach(n -> figures.add(String.valueOf(n)));
            return String.join(".", figures);
        }

        String written() {
            StringBuilder text = new StringBuilder();
            for (Clause clause : clauses) {
                if (!force.contains(clause.number)) {
                    continue;
                }
                text.append(numberText(clause)).append(' ');
                for (Part part : clause.parts) {
                    if (part.word == 'd') {
                        text.append((char) (65 + part.value));
                    } else if (part.word == 'u') {
                        text.append((char) (97 + part.value));
                    } else {
                        boolean is = force.contains(part.value);
                        text.append('[').append(is ? numberText(clauses.get(part.value)) : "?").append(']');
                    }
                }
                text.append(';');
            }
            return text.toString();
        }
    }

    private final StringBuilder text = new StringBuilder();
    private List<Clause> clauses = new ArrayList<>();
    private List<Clause> outer = new ArrayList<>();
    private List<Part> parts = new ArrayList<>();
    private int faultAt = NONE;
    private State state = new State();
    private final Deque<State> undos = new ArrayDeque<>();
    private final State[] images = new State[2];
    private final Look[] looks = new Look[64];

    // ---- reading

    private String read;
    private int at;
    private List<Clause> newClauses;
    private List<Clause> newOuter;
    private List<Part> newParts;

    private char peek() {
        while (at < read.length() && read.charAt(at) == ' ') {
            at++;
        }
        return at < read.length() ? read.charAt(at) : '\uffff';
    }

    private int oneFigure(int most) throws Fault {
        char letter = peek();
        if (letter < '0' || letter > '9') {
            throw new Fault(1, at);
        }
        if (letter - '0' > most) {
            throw new Fault(2, at);
        }
        at++;
        return letter - '0';
    }

    private void readClause(Clause around) throws Fault {
        if (newClauses.size() == 16) {
            throw new Fault(3, at);
        }
        Clause clause = new Clause();
        clause.number = newClauses.size();
        clause.around = around;
        newClauses.add(clause);
        (around == null ? newOuter : around.subs).add(clause);
        at++;
        while (peek() == '+' || peek() == '-') {
            boolean yes = peek() == '+';
            at++;
            int q = oneFigure(5);
            if (clause.yes.contains(q) || clause.no.contains(q)) {
                throw new Fault(4, at - 1);
            }
            (yes ? clause.yes : clause.no).add(q);
        }
        if (peek() == '*') {
            clause.called = true;
            at++;
        }
        if (peek() != '(') {
            throw new Fault(1, at);
        }
        at++;
        while (peek() != ')') {
            readPart(clause);
        }
        at++;
    }

    private void readPart(Clause clause) throws Fault {
        char word = peek();
        if (word == 'c') {
            readClause(clause);
            return;
        }
        if (word != 'd' && word != 'u' && word != 'r') {
            throw new Fault(1, at);
        }
        if (newParts.size() == 30) {
            throw new Fault(3, at);
        }
        at++;
        Part part = new Part();
        part.word = word;
        part.owner = clause;
        part.value = word == 'r' ? readReference(part) : oneFigure(7);
        newParts.add(part);
        clause.parts.add(part);
    }

    private int readReference(Part part) throws Fault {
        peek();
        part.letter = at;
        int end = at;
        while (end < read.length() && read.charAt(end) >= '0' && read.charAt(end) <= '9') {
            end++;
        }
        if (end == at) {
            throw new Fault(1, at);
        }
        if (end - at > 2 || Integer.parseInt(read.substring(at, end)) > 15) {
            throw new Fault(2, at);
        }
        int value = Integer.parseInt(read.substring(at, end));
        at = end;
        return value;
    }

    private void readAll() throws Fault {
        while (peek() != '\uffff') {
            if (peek() != 'c') {
                throw new Fault(1, at);
            }
            readClause(null);
        }
        for (Part part : newParts) {
            if (part.word == 'r' && part.value >= newClauses.size()) {
                throw new Fault(5, part.letter);
            }
        }
    }

    int feed(int letter) {
        if (letter < 0 || letter > 255) {
            return OUTSIDE;
        }
        if (text.length() == 240) {
            return FULL;
        }
        text.append((char) letter);
        return text.length();
    }

    int contract() {
        read = text.toString();
        text.setLength(0);
        at = 0;
        newClauses = new ArrayList<>();
        newOuter = new ArrayList<>();
        newParts = new ArrayList<>();
        try {
            readAll();
        } catch (Fault fault) {
            faultAt = fault.letter;
            return -10 - fault.number;
        }
        faultAt = NONE;
        clauses = newClauses;
        outer = newOuter;
        parts = newParts;
        state.struck.clear();
        undos.clear();
        Arrays.fill(images, null);
        Arrays.fill(looks, null);
        return clauses.size();
    }

    int fault() {
        return faultAt;
    }

    // ---- what is in force

    private boolean holds(Clause clause, int answers) {
        return clause.yes.stream().allMatch(q -> (answers >> q & 1) == 1)
            && clause.no.stream().allMatch(q -> (answers >> q & 1) == 0);
    }

    private boolean belongs(Clause clause, int answers, IntPredicate in) {
        boolean referred = clauses.stream().anyMatch(other -> other != clause && in.test(other.number)
            && other.parts.stream().anyMatch(p -> p.word == 'r' && p.value == clause.number));
        return holds(clause, answers) && !state.struck.contains(clause.number)
            && (clause.around == null || in.test(clause.around.number)) && (!clause.called || referred);
    }

    /** With few clauses every set is tried, and of those that are as told the smallest is taken. */
    private Set<Integer> leastForce(int answers) {
        if (clauses.size() > 5) {
            return grownForce(answers);
        }
        int best = -1;
        for (int set = 0; set < 1 << clauses.size(); set++) {
            int tried = set;
            boolean fits = clauses.stream()
                .allMatch(c -> belongs(c, answers, k -> (tried >> k & 1) == 1) == ((tried >> c.number & 1) == 1));
            if (fits && (best < 0 || Integer.bitCount(set) < Integer.bitCount(best))) {
                best = set;
            }
        }
        Set<Integer> force = new TreeSet<>();
        for (int c = 0; c < clauses.size(); c++) {
            if ((best >> c & 1) == 1) {
                force.add(c);
            }
        }
        return force;
    }

    private Set<Integer> grownForce(int answers) {
        Set<Integer> force = new TreeSet<>();
        boolean grew = true;
        while (grew) {
            grew = false;
            for (Clause clause : clauses) {
                if (!force.contains(clause.number) && belongs(clause, answers, force::contains)) {
                    force.add(clause.number);
                    grew = true;
                }
            }
        }
        return force;
    }

    private Look look(int answers) {
        if (looks[answers] == null) {
            looks[answers] = new Look(answers);
        }
        return looks[answers];
    }

    private Look now() {
        int answers = 0;
        for (int q = 0; q < 6; q++) {
            answers |= state.answers[q] != null && state.answers[q] == 1 ? 1 << q : 0;
        }
        return look(answers);
    }

    private static int set(Set<Integer> numbers) {
        return numbers.stream().mapToInt(n -> 1 << n).sum();
    }

    private static boolean agrees(Integer[] answers, int full) {
        for (int q = 0; q < 6; q++) {
            if (answers[q] != null && answers[q] != (full >> q & 1)) {
                return false;
            }
        }
        return true;
    }

    private static List<Integer> possible(Integer[] answers) {
        List<Integer> all = new ArrayList<>();
        for (int full = 0; full < 64; full++) {
            if (agrees(answers, full)) {
                all.add(full);
            }
        }
        return all;
    }

    private int surety(int c, Integer[] answers) {
        List<Integer> all = possible(answers);
        long in = all.stream().filter(full -> look(full).force.contains(c)).count();
        return in == 0 ? 0 : in == all.size() ? 2 : 1;
    }

    private int suretySet(int wanted) {
        int set = 0;
        for (int c = 0; c < clauses.size(); c++) {
            set |= surety(c, state.answers) == wanted ? 1 << c : 0;
        }
        return set;
    }

    /** With c NONE: whether all that is in force is the same. */
    private int matters(int c) {
        int set = 0;
        for (int q = 0; q < 6; q++) {
            if (state.answers[q] != null) {
                continue;
            }
            for (int full : possible(state.answers)) {
                Set<Integer> one = look(full).force;
                Set<Integer> other = look(full ^ 1 << q).force;
                if (c == NONE ? !one.equals(other) : one.contains(c) != other.contains(c)) {
                    set |= 1 << q;
                }
            }
        }
        return set;
    }

    private int settles(int c, Integer[] answers, int from) {
        if (surety(c, answers) != 1) {
            return 0;
        }
        int fewest = 6;
        for (int q = from; q < 6; q++) {
            if (answers[q] == null) {
                for (int a = 0; a < 2; a++) {
                    answers[q] = a;
                    fewest = Math.min(fewest, 1 + settles(c, answers, q + 1));
                }
                answers[q] = null;
            }
        }
        return fewest;
    }

    // ---- calls

    private void changed() {
        undos.addLast(state.copy());
        if (undos.size() > 8) {
            undos.removeFirst();
        }
    }

    private static int shown(Integer answer) {
        return answer == null ? NONE : answer;
    }

    int answer(int q, boolean yes) {
        if (q < 0 || q > 5) {
            return UNKNOWN;
        }
        int was = shown(state.answers[q]);
        if (was == (yes ? 1 : 0)) {
            return NOT;
        }
        changed();
        state.answers[q] = yes ? 1 : 0;
        return was;
    }

    int forget(int q) {
        if (q < 0 || q > 5) {
            return UNKNOWN;
        }
        int was = shown(state.answers[q]);
        if (was == NONE) {
            return NOT;
        }
        changed();
        state.answers[q] = null;
        return was;
    }

    int strike(int c, boolean is) {
        if (c < 0 || c >= clauses.size()) {
            return UNKNOWN;
        }
        if (state.struck.contains(c) == is) {
            return NOT;
        }
        changed();
        if (is) {
            state.struck.add(c);
        } else {
            state.struck.remove(c);
        }
        Arrays.fill(looks, null);
        return now().force.size();
    }

    int drift(int seed) {
        if (seed < 1 || seed > 999999) {
            return OUTSIDE;
        }
        changed();
        java.math.BigInteger x = java.math.BigInteger.valueOf(seed);
        for (int q = 0; q < 6; q++) {
            x = x.multiply(java.math.BigInteger.valueOf(16807)).mod(java.math.BigInteger.valueOf(2147483647));
            int lot = x.mod(java.math.BigInteger.valueOf(3)).intValue();
            state.answers[q] = lot == 2 ? null : Integer.valueOf(lot);
        }
        return now().force.size();
    }

    int undo() {
        if (undos.isEmpty()) {
            return NOT;
        }
        state = undos.removeLast();
        Arrays.fill(looks, null);
        return undos.size();
    }

    int answerOf(int q) {
        return q < 0 || q > 5 ? UNKNOWN : shown(state.answers[q]);
    }

    int told(int what) {
        int answered = 0;
        for (int q = 0; q < 6; q++) {
            answered |= state.answers[q] == null ? 0 : 1 << q;
        }
        List<Integer> fair = new ArrayList<>();
        if (what == 11 || what == 12) {
            possible(state.answers).stream().filter(full -> look(full).wrong() == 0).forEach(fair::add);
        }
        switch (what) {
            case 0: return clauses.size();
            case 1: return parts.size();
            case 2: return text.length();
            case 3: return answered;
            case 4: return set(now().force);
            case 5: return suretySet(2);
            case 6: return suretySet(0);
            case 7: return suretySet(1);
            case 8: return set(state.struck);
            case 9: return now().wrong();
            case 10: return matters(NONE);
            case 11: return fair.size();
            case 12: return fair.isEmpty() ? NONE : fair.get(0);
            case 13: return now().written().length();
            case 14: return undos.size();
            default: return OUTSIDE;
        }
    }

    int wrong(int what) {
        Part first = now().firstWrong();
        switch (what) {
            case 0: return now().bare.size();
            case 1: return now().doubled.size();
            case 2: return now().idle;
            case 3: return now().dangling.size();
            case 4: return set(now().round);
            case 5: return first == null ? NONE : first.owner.number;
            case 6: return first == null ? NONE : parts.indexOf(first);
            default: return OUTSIDE;
        }
    }

    int clause(int c, int what) {
        if (c < 0 || c >= clauses.size()) {
            return UNKNOWN;
        }
        Clause clause = clauses.get(c);
        int deep = 0;
        for (Clause up = clause.around; up != null; up = up.around) {
            deep++;
        }
        Set<Integer> subs = new TreeSet<>();
        clause.subs.forEach(sub -> subs.add(sub.number));
        Set<Integer> referring = new TreeSet<>();
        parts.stream().filter(p -> p.word == 'r' && p.value == c).forEach(p -> referring.add(p.owner.number));
        int now = 0;
        for (int q = 0; q < 6; q++) {
            now |= shown(state.answers[q]) == 1 ? 1 << q : 0;
        }
        switch (what) {
            case 0: return clause.around == null ? NONE : clause.around.number;
            case 1: return deep;
            case 2: return set(subs);
            case 3: return set(clause.yes);
            case 4: return set(clause.no);
            case 5: return clause.called ? 1 : 0;
            case 6: return clause.parts.size();
            case 7: return holds(clause, now) ? 1 : 0;
            case 8: return now().force.contains(c) ? 1 : 0;
            case 9: return set(referring);
            default: return OUTSIDE;
        }
    }

    int part(int c, int k, int what) {
        if (c < 0 || c >= clauses.size()) {
            return UNKNOWN;
        }
        if (k < 0 || what < 0 || what > 1) {
            return OUTSIDE;
        }
        if (k >= clauses.get(c).parts.size()) {
            return NONE;
        }
        Part part = clauses.get(c).parts.get(k);
        return what == 0 ? "dur".indexOf(part.word) : part.value;
    }

    int number(int c, int k) {
        if (c < 0 || c >= clauses.size()) {
            return UNKNOWN;
        }
        if (k < 0) {
            return OUTSIDE;
        }
        if (!now().force.contains(c)) {
            return NONE;
        }
        List<Integer> number = now().number(clauses.get(c));
        return k < number.size() ? number.get(k) : NONE;
    }

    int hangs(int c, int what) {
        if (c < 0 || c >= clauses.size()) {
            return UNKNOWN;
        }
        switch (what) {
            case 0: return matters(c);
            case 1: return settles(c, state.answers.clone(), 0);
            case 2: return (int) possible(state.answers).stream().filter(f -> look(f).force.contains(c)).count();
            case 3: return surety(c, state.answers);
            default: return OUTSIDE;
        }
    }

    int term(int t, int what) {
        if (t < 0 || t > 7) {
            return UNKNOWN;
        }
        switch (what) {
            case 0: return now().count('d', t);
            case 1: return now().count('u', t);
            case 2: return now().inForce.stream().filter(p -> p.word == 'd' && p.value == t)
                .findFirst().map(p -> p.owner.number).orElse(NONE);
            case 3: return now().round.contains(t) ? 1 : 0;
            case 4: return set(now().hangsOn(t));
            default: return OUTSIDE;
        }
    }

    int by(int answers, int what) {
        if (answers < 0 || answers > 63 || what < 0 || what > 1) {
            return OUTSIDE;
        }
        return what == 0 ? set(look(answers).force) : look(answers).wrong();
    }

    int sign(int i) {
        if (i < 0) {
            return OUTSIDE;
        }
        String written = now().written();
        return i < written.length() ? written.charAt(i) : NONE;
    }

    int keep(int i) {
        if (i < 0 || i > 1) {
            return UNKNOWN;
        }
        images[i] = state.copy();
        undos.clear();
        return 1;
    }

    int goBack(int i) {
        if (i < 0 || i > 1) {
            return UNKNOWN;
        }
        if (images[i] == null) {
            return NOT;
        }
        state = images[i].copy();
        undos.clear();
        Arrays.fill(looks, null);
        return 1;
    }
}
