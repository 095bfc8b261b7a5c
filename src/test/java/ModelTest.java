import java.util.Random;

/** Random runs of calls, each answer held against the Model's (all promises). */
public final class ModelTest {
    private static final Check CHECK = new Check("ModelTest");
    private static final int RUNS = 500;
    private static final int[] ODD = {Integer.MIN_VALUE, Integer.MAX_VALUE, -1, -2, 31, 32, 63, 64, 240, 255, 256};

    private final Random random;
    private final ContractDesk desk = new ContractDesk();
    private final Model model = new Model();
    private final StringBuilder trail = new StringBuilder();

    private ModelTest(long seed) {
        random = new Random(seed);
    }

    public static void main(String[] args) {
        long first = args.length > 0 ? Long.parseLong(args[0]) : 1;
        int runs = args.length > 1 ? Integer.parseInt(args[1]) : RUNS;
        for (long seed = first; seed < first + runs; seed++) {
            ModelTest run = new ModelTest(seed);
            run.runAll();
            if (!CHECK.isClean()) {
                System.out.println("seed " + seed + ":" + run.trail);
                break;
            }
        }
        CHECK.end();
    }

    private void due(String call, int want, int got) {
        trail.append(' ').append(call).append('=').append(got);
        CHECK.due(call, want, got);
    }

    private void runAll() {
        lookAtAll();
        for (int round = 0; round < 4; round++) {
            tell(random.nextInt(4) == 0 ? spoilt(text()) : text());
            lookAtAll();
            for (int i = 0; i < 10; i++) {
                change();
                if (random.nextInt(3) == 0) {
                    lookAtAll();
                }
                lookAround();
            }
        }
    }

    private void tell(String text) {
        for (int i = 0; i < text.length(); i++) {
            int letter = text.charAt(i);
            CHECK.due("feed(" + letter + ")", model.feed(letter), desk.feed(letter));
        }
        CHECK.due("told(2)", model.told(2), desk.told(2));
        due("contract('" + text + "')", model.contract(), desk.contract());
        due("fault()", model.fault(), desk.fault());
    }

    private String text() {
        StringBuilder text = new StringBuilder();
        int clauses = random.nextInt(4) == 0 ? 1 + random.nextInt(16) : 1 + random.nextInt(6);
        int parts = random.nextInt(31);
        int begun = 0;
        int open = 0;
        int called = random.nextInt(3);
        int questions = 1 + random.nextInt(6);
        int terms = 1 + random.nextInt(8);
        boolean blanks = random.nextInt(5) == 0;
        while (begun < clauses || open > 0) {
            int lot = random.nextInt(8);
            if (begun < clauses && (open == 0 || lot == 0)) {
                text.append('c');
                wants(text, questions);
                text.append(random.nextInt(4) < called ? "*(" : "(");
                begun++;
                open++;
            } else if (lot < 3 && open > 0) {
                text.append(')');
                open--;
            } else if (parts > 0) {
                parts--;
                char word = "durr".charAt(random.nextInt(4));
                text.append(word).append(word == 'r' ? random.nextInt(clauses) : random.nextInt(terms));
            }
            if (blanks && random.nextInt(3) == 0) {
                text.append(' ');
            }
        }
        return text.toString();
    }

    private void wants(StringBuilder text, int questions) {
        for (int q = 0; q < questions; q++) {
            if (random.nextInt(4) == 0) {
                text.append(random.nextBoolean() ? '+' : '-').append(q);
            }
        }
    }

    private String spoilt(String text) {
        StringBuilder spoilt = new StringBuilder(text);
        for (int i = 0; i <= random.nextInt(2); i++) {
            int at = random.nextInt(spoilt.length() + 1);
            char letter = "cdur+-*() 0123456789x".charAt(random.nextInt(21));
            if (random.nextBoolean() && at < spoilt.length()) {
                spoilt.setCharAt(at, letter);
            } else if (random.nextBoolean() && at < spoilt.length()) {
                spoilt.deleteCharAt(at);
            } else {
                spoilt.insert(at, letter);
            }
        }
        return spoilt.toString();
    }

    private int near(int bound) {
        int lot = random.nextInt(20);
        if (lot == 0) {
            return ODD[random.nextInt(ODD.length)];
        }
        return lot == 1 ? bound : random.nextInt(bound);
    }

    private void change() {
        boolean yes = random.nextBoolean();
        int q = near(6);
        int c = near(Math.max(1, model.told(0)));
        int i = near(2);
        switch (random.nextInt(12)) {
            case 0: case 1: case 2:
                due("answer(" + q + ", " + yes + ")", model.answer(q, yes), desk.answer(q, yes));
                break;
            case 3:
                due("forget(" + q + ")", model.forget(q), desk.forget(q));
                break;
            case 4: case 5:
                due("strike(" + c + ", " + yes + ")", model.strike(c, yes), desk.strike(c, yes));
                break;
            case 6:
                int seed = near(1000000);
                due("drift(" + seed + ")", model.drift(seed), desk.drift(seed));
                break;
            case 7: case 8:
                due("undo()", model.undo(), desk.undo());
                break;
            case 9:
                due("keep(" + i + ")", model.keep(i), desk.keep(i));
                break;
            case 10:
                due("goBack(" + i + ")", model.goBack(i), desk.goBack(i));
                break;
            default:
                for (int turn = 0; turn < 10; turn++) {
                    int asked = turn % 6;
                    due("answer(" + asked + ", " + yes + ")", model.answer(asked, yes), desk.answer(asked, yes));
                    yes = !yes;
                }
                break;
        }
    }

    private void lookAtAll() {
        for (int what = -1; what <= 15; what++) {
            CHECK.due("told(" + what + ")", model.told(what), desk.told(what));
            CHECK.due("wrong(" + what + ")", model.wrong(what), desk.wrong(what));
        }
        for (int c = -1; c <= model.told(0); c++) {
            lookAtClause(c);
        }
        for (int t = -1; t <= 8; t++) {
            for (int what = -1; what <= 5; what++) {
                CHECK.due("term(" + t + ", " + what + ")", model.term(t, what), desk.term(t, what));
            }
        }
        for (int answers = -1; answers <= 64; answers++) {
            for (int what = -1; what <= 2; what++) {
                CHECK.due("by(" + answers + ", " + what + ")", model.by(answers, what), desk.by(answers, what));
            }
        }
        for (int i = -1; i <= model.told(13); i++) {
            CHECK.due("sign(" + i + ")", model.sign(i), desk.sign(i));
        }
        CHECK.due("fault()", model.fault(), desk.fault());
    }

    private void lookAtClause(int c) {
        for (int what = -1; what <= 10; what++) {
            CHECK.due("clause(" + c + ", " + what + ")", model.clause(c, what), desk.clause(c, what));
            CHECK.due("hangs(" + c + ", " + what + ")", model.hangs(c, what), desk.hangs(c, what));
        }
        for (int k = -1; k <= 16; k++) {
            CHECK.due("number(" + c + ", " + k + ")", model.number(c, k), desk.number(c, k));
        }
        for (int k = -1; k <= 30; k++) {
            for (int what = -1; what <= 2; what++) {
                CHECK.due("part(" + c + ", " + k + ", " + what + ")", model.part(c, k, what), desk.part(c, k, what));
            }
        }
    }

    private void lookAround() {
        for (int q = -1; q <= 6; q++) {
            due("answerOf(" + q + ")", model.answerOf(q), desk.answerOf(q));
        }
        int a = near(64);
        int b = near(16);
        CHECK.due("told", model.told(b), desk.told(b));
        CHECK.due("told(3)", model.told(3), desk.told(3));
        CHECK.due("told(4)", model.told(4), desk.told(4));
        CHECK.due("told(8)", model.told(8), desk.told(8));
        CHECK.due("told(14)", model.told(14), desk.told(14));
        CHECK.due("sign", model.sign(a), desk.sign(a));
        CHECK.due("by", model.by(a, b & 1), desk.by(a, b & 1));
        CHECK.due("term", model.term(b, a), desk.term(b, a));
        CHECK.due("clause", model.clause(b, a), desk.clause(b, a));
        CHECK.due("number", model.number(b, a), desk.number(b, a));
        CHECK.due("part", model.part(b, a, b), desk.part(b, a, b));
        CHECK.due("hangs", model.hangs(b, a), desk.hangs(b, a));
        CHECK.due("feed", model.feed(ODD[b & 3]), desk.feed(ODD[b & 3]));
    }
}
