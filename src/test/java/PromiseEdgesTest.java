import java.util.function.IntUnaryOperator;

/** The boundary cases of the document's 'Promise 1' to 'Promise 21': one test for each sentence that names one. */
public final class PromiseEdgesTest {
    private static final Check CHECK = new Check("PromiseEdgesTest");
    private static final int NONE = -1, UNKNOWN = -1000000001, OUTSIDE = -1000000002, NOT = -1000000003, FULL = -1000000004;
    /** Far numbers, those among them that shifts or 32 bits would bring back to a small one. */
    private static final int[] FAR = {Integer.MIN_VALUE, Integer.MIN_VALUE + 1, -65536, -256, -64, -32, -2, -1,
        256, 512, 65536, 1 << 24, 1 << 30, Integer.MAX_VALUE - 1, Integer.MAX_VALUE};

    private static ContractDesk desk;

    private static void sentence(String words) {
        CHECK.sentence(words);
    }

    private static void due(String call, int want, int got) {
        CHECK.due(call, want, got);
    }

    private static void start(String text) {
        desk = Check.desk(text);
    }

    /** The call is refused for each number far out, and for those just below 0 and at the bound and behind. */
    private static void refusedFrom(String call, int bound, int want, IntUnaryOperator asked) {
        for (int far : FAR) {
            due(call + " of " + far, want, asked.applyAsInt(far));
        }
        for (int above = bound; above <= bound + 64; above++) {
            due(call + " of " + above, want, asked.applyAsInt(above));
        }
    }

    private static void refusedBelow(String call, int want, IntUnaryOperator asked) {
        for (int far : FAR) {
            if (far < 0) {
                due(call + " of " + far, want, asked.applyAsInt(far));
            }
        }
    }

    private static void noneAbove(String call, IntUnaryOperator asked) {
        for (int far : FAR) {
            if (far > 0) {
                due(call + " of " + far, NONE, asked.applyAsInt(far));
            }
        }
    }

    public static void main(String[] args) {
        promise1();
        promise2();
        promise3();
        promise3Anew();
        promise3Fault();
        promise4();
        promise5();
        promise6();
        promise7();
        promise8();
        promise9();
        promise10();
        promise11();
        promise11Bounds();
        promise12();
        promise13();
        promise14();
        promise15();
        promise16();
        promise17();
        promise18();
        promise19();
        promise20();
        promise21();
        CHECK.end();
    }

    private static void promise1() {
        sentence("1: No CLAUSES");
        desk = new ContractDesk();
        due("told(0)", 0, desk.told(0));
        due("told(1)", 0, desk.told(1));
        due("clause(0, 0)", UNKNOWN, desk.clause(0, 0));
        due("strike(0, true)", UNKNOWN, desk.strike(0, true));
        due("number(0, 0)", UNKNOWN, desk.number(0, 0));
        due("part(0, 0, 0)", UNKNOWN, desk.part(0, 0, 0));
        due("hangs(0, 0)", UNKNOWN, desk.hangs(0, 0));
        for (int what = 4; what <= 10; what++) {
            due("told(" + what + ")", 0, desk.told(what));
        }
        due("told(11)", 64, desk.told(11));
        due("told(12)", 0, desk.told(12));
        due("told(13)", 0, desk.told(13));
        due("sign(0)", NONE, desk.sign(0));
        due("by(63, 0)", 0, desk.by(63, 0));
        due("by(63, 1)", 0, desk.by(63, 1));
        due("drift(1)", 0, desk.drift(1));
        sentence("1: no ANSWERS");
        desk = new ContractDesk();
        due("told(3)", 0, desk.told(3));
        for (int q = 0; q < 6; q++) {
            due("answerOf(" + q + ")", NONE, desk.answerOf(q));
            due("forget(" + q + ")", NOT, desk.forget(q));
        }
        sentence("1: A new object, beside an old one");
        ContractDesk old = Check.desk("c()c()");
        old.answer(0, true);
        old.feed('c');
        desk = new ContractDesk();
        due("told(0) of the new one", 0, desk.told(0));
        due("told(3) of the new one", 0, desk.told(3));
        due("told(2) of the new one", 0, desk.told(2));
        due("contract() of the new one", 0, desk.contract());
        due("told(0) of the old one", 2, old.told(0));
        due("answerOf(0) of the old one", 1, old.answerOf(0));
    }

    private static void promise2() {
        sentence("2: One letter (a number 0 .. 255) comes behind THE TEXT: how many it has");
        desk = new ContractDesk();
        due("feed(0)", 1, desk.feed(0));
        due("feed(255)", 2, desk.feed(255));
        due("told(2)", 2, desk.told(2));
        sentence("2: OUTSIDE");
        refusedFrom("feed()", 256, OUTSIDE, letter -> desk.feed(letter));
        due("told(2), nothing more", 2, desk.told(2));
        sentence("2: FULL (240)");
        desk = new ContractDesk();
        for (int n = 1; n <= 240; n++) {
            due("feed(), number " + n, n, desk.feed(' '));
        }
        due("feed(), number 241", FULL, desk.feed(' '));
        due("feed(), number 241 again", FULL, desk.feed(255));
        due("told(2)", 240, desk.told(2));
        due("contract()", 0, desk.contract());
        due("feed(), anew", 1, desk.feed(' '));
    }

    private static void promise3() {
        sentence("3: THE TEXT (it is empty then) becomes THE CONTRACT");
        start("c(d0)c(u0)c()");
        due("told(2)", 0, desk.told(2));
        Check.feed(desk, "c(r0)");
        due("told(0) ahead of contract()", 3, desk.told(0));
        due("contract()", 1, desk.contract());
        due("told(0)", 1, desk.told(0));
        due("told(1)", 1, desk.told(1));
        due("part(0, 0, 0)", 2, desk.part(0, 0, 0));
        due("clause(1, 0)", UNKNOWN, desk.clause(1, 0));
        due("clause(0, 9)", 1, desk.clause(0, 9));
        due("term(0, 0)", 0, desk.term(0, 0));
        sentence("3: (nothing STRUCK)");
        desk.strike(0, true);
        Check.feed(desk, "c()");
        desk.contract();
        due("told(8)", 0, desk.told(8));
        due("told(4)", 1, desk.told(4));
        sentence("3: (ANSWERS stay)");
        desk.answer(0, true);
        desk.answer(5, false);
        Check.feed(desk, "c+0()c-0()");
        desk.contract();
        due("told(3)", 33, desk.told(3));
        due("answerOf(0)", 1, desk.answerOf(0));
        due("answerOf(5)", 0, desk.answerOf(5));
        due("told(4)", 1, desk.told(4));
        sentence("3: (IMAGES, what could be undone are gone)");
        desk.keep(0);
        desk.keep(1);
        desk.answer(1, true);
        desk.contract();
        due("told(14)", 0, desk.told(14));
        due("undo()", NOT, desk.undo());
        due("goBack(0)", NOT, desk.goBack(0));
        due("goBack(1)", NOT, desk.goBack(1));
        due("answerOf(1), it stays", 1, desk.answerOf(1));
        sentence("3: how many CLAUSES");
        due("contract() of none", 0, desk.contract());
        Check.feed(desk, "c(".repeat(16) + ")".repeat(16));
        due("contract() of sixteen", 16, desk.contract());
    }

    /** Each letter of the old text would go on where a shorter one ends. */
    private static void promise3Anew() {
        sentence("3: THE TEXT becomes THE CONTRACT: nothing of an earlier text is in it");
        String[] shorter = {"c", "c+", "c+0", "c*", "c(", "c(d", "c(u", "c(r", "c(r1", "c(c"};
        String[] longer = {"c()", "c+0()", "c+0()", "c*()", "c()", "c(d0)", "c(u0)", "c(r0)", "c(r10)", "c(c())"};
        for (int i = 0; i < shorter.length; i++) {
            start(longer[i]);
            Check.feed(desk, shorter[i]);
            due("contract() of '" + shorter[i] + "' behind '" + longer[i] + "'", -11, desk.contract());
            due("fault() of it", shorter[i].length(), desk.fault());
        }
        sentence("3: THE TEXT becomes THE CONTRACT: nothing of an earlier contract is in it");
        for (String end : new String[] {"", "x"}) {
            start("c+0-1+2*(d0u0r1c-3*(u1d1r0))c*(r2u2r7)c(r0r1)c()c()c()c()" + end);
            Check.feed(desk, "c(d0d1)c(c())");
            due("contract() behind a full one" + end, 3, desk.contract());
            for (int c = 0; c < 3; c++) {
                due("clause(" + c + ", 0)", c == 2 ? 1 : NONE, desk.clause(c, 0));
                due("clause(" + c + ", 1)", c == 2 ? 1 : 0, desk.clause(c, 1));
                due("clause(" + c + ", 3)", 0, desk.clause(c, 3));
                due("clause(" + c + ", 4)", 0, desk.clause(c, 4));
                due("clause(" + c + ", 5)", 0, desk.clause(c, 5));
                due("clause(" + c + ", 6)", c == 0 ? 2 : 0, desk.clause(c, 6));
                due("clause(" + c + ", 9)", 0, desk.clause(c, 9));
            }
            due("told(4)", 7, desk.told(4));
            due("told(9)", 0, desk.told(9));
            due("wrong(6)", NONE, desk.wrong(6));
            due("told(11)", 64, desk.told(11));
            due("term(0, 4)", 0, desk.term(0, 4));
            due("term(2, 1)", 0, desk.term(2, 1));
            due("told(13)", 5 + 3 + 5, desk.told(13));
        }
    }

    private static void promise3Fault() {
        sentence("3: (it is empty then, with a FAULT, too)");
        start("c(d0)c()");
        Check.feed(desk, "c(d1)c()c(d0x");
        due("contract()", -11, desk.contract());
        due("told(2)", 0, desk.told(2));
        due("feed() anew", 1, desk.feed(' '));
        due("contract() anew, of nothing of the old text", 0, desk.contract());
        sentence("3: -10 less the number of its FAULT");
        String[] faulty = {"x", "c+6()", "c()".repeat(17), "c+0+0()", "c(r1)"};
        for (int i = 0; i < faulty.length; i++) {
            Check.feed(desk, faulty[i]);
            due("contract() of '" + faulty[i] + "'", -11 - i, desk.contract());
        }
        sentence("3: (all else is as it was)");
        start("c+0(d1r1)c*(u1)c()");
        desk.answer(0, true);
        desk.keep(0);
        desk.strike(2, true);
        desk.answer(5, false);
        desk.drift(7);
        for (String text : faulty) {
            String before = Check.shown(desk).replaceAll("fault=\\S+", "");
            Check.feed(desk, text);
            desk.contract();
            CHECK.same("all else behind '" + text + "'", before, Check.shown(desk).replaceAll("fault=\\S+", ""));
        }
        due("undo(), of three", 2, desk.undo());
        due("goBack(0)", 1, desk.goBack(0));
        due("told(3)", 1, desk.told(3));
        due("told(8)", 0, desk.told(8));
        due("told(4)", 7, desk.told(4));
    }

    private static void promise4() {
        sentence("4: The letter of the FAULT of the latest contract()");
        desk = new ContractDesk();
        Check.feed(desk, "x");
        desk.contract();
        due("fault(), the first letter", 0, desk.fault());
        Check.feed(desk, " ".repeat(239) + "x");
        due("fault(), the text is not read yet", 0, desk.fault());
        desk.contract();
        due("fault(), the last letter", 239, desk.fault());
        Check.feed(desk, " ".repeat(238) + "c(");
        desk.contract();
        due("fault(), the end", 240, desk.fault());
        sentence("4: NONE");
        due("fault() of a new object", NONE, new ContractDesk().fault());
        desk.contract();
        due("fault(), the latest has none", NONE, desk.fault());
    }

    private static void promise5() {
        sentence("5: An ANSWER: what it was");
        desk = new ContractDesk();
        due("answer(5, false)", NONE, desk.answer(5, false));
        due("answer(5, true)", 0, desk.answer(5, true));
        due("answer(5, false) again", 1, desk.answer(5, false));
        due("told(3), it alone", 32, desk.told(3));
        sentence("5: UNKNOWN");
        refusedFrom("answer(q, true)", 6, UNKNOWN, q -> desk.answer(q, true));
        refusedFrom("answer(q, false)", 6, UNKNOWN, q -> desk.answer(q, false));
        sentence("5: NOT: it is so");
        desk = new ContractDesk();
        desk.answer(0, true);
        due("answer(0, true)", NOT, desk.answer(0, true));
        desk.answer(0, false);
        due("answer(0, false)", NOT, desk.answer(0, false));
        due("answer(1, false), none is not no", NONE, desk.answer(1, false));
        due("told(14)", 3, desk.told(14));
    }

    private static void promise6() {
        sentence("6: No ANSWER: what it was");
        desk = new ContractDesk();
        desk.answer(0, false);
        desk.answer(5, true);
        due("forget(0)", 0, desk.forget(0));
        due("told(3), the other stays", 32, desk.told(3));
        due("forget(5)", 1, desk.forget(5));
        due("answerOf(5)", NONE, desk.answerOf(5));
        sentence("6: UNKNOWN");
        refusedFrom("forget()", 6, UNKNOWN, q -> desk.forget(q));
        sentence("6: NOT: there is none");
        due("forget(0) again", NOT, desk.forget(0));
        due("forget(1), never answered", NOT, desk.forget(1));
        due("told(14)", 4, desk.told(14));
    }

    private static void promise7() {
        sentence("7: A CLAUSE is STRUCK, or no more: how many are IN FORCE NOW");
        start("c()".repeat(15) + "c(r0)");
        due("strike(15, true)", 15, desk.strike(15, true));
        due("told(8)", 32768, desk.told(8));
        for (int c = 14; c >= 0; c--) {
            due("strike(" + c + ", true)", c, desk.strike(c, true));
        }
        due("told(4), none", 0, desk.told(4));
        due("strike(15, false)", 1, desk.strike(15, false));
        due("wrong(3), it dangles", 1, desk.wrong(3));
        start("c(c(c()))c+0()");
        due("strike(3, true), it was not in force", 3, desk.strike(3, true));
        due("strike(0, true), all within it", 0, desk.strike(0, true));
        due("strike(0, false)", 3, desk.strike(0, false));
        sentence("7: UNKNOWN");
        refusedFrom("strike(c, true)", 4, UNKNOWN, c -> desk.strike(c, true));
        refusedFrom("strike(c, false)", 4, UNKNOWN, c -> desk.strike(c, false));
        sentence("7: NOT: it is so");
        due("strike(3, true)", NOT, desk.strike(3, true));
        due("strike(0, false)", NOT, desk.strike(0, false));
        due("told(8)", 8, desk.told(8));
        due("told(14)", 3, desk.told(14));
    }

    private static void promise8() {
        sentence("8: a SEED (1 .. 999999): how many are IN FORCE NOW");
        start("c+0()c+1()c-0()c()");
        due("drift(1): yes to 0 and 1", 3, desk.drift(1));
        due("told(3) of 1", 19, desk.told(3));
        due("drift(999999): yes to 1, none to 0", 3, desk.drift(999999));
        due("told(3) of 999999", 62, desk.told(3));
        sentence("8: OUTSIDE");
        due("drift(0)", OUTSIDE, desk.drift(0));
        due("drift(1000000)", OUTSIDE, desk.drift(1000000));
        due("drift(-1)", OUTSIDE, desk.drift(-1));
        due("drift(-999999)", OUTSIDE, desk.drift(-999999));
        due("drift(2147483647)", OUTSIDE, desk.drift(Integer.MAX_VALUE));
        due("drift(-2147483648)", OUTSIDE, desk.drift(Integer.MIN_VALUE));
        due("told(14)", 2, desk.told(14));
        due("told(3), as it was", 62, desk.told(3));
    }

    private static void promise9() {
        sentence("9: The latest is undone: how many more can be");
        start("c()c()");
        for (int i = 0; i < 20; i++) {
            desk.strike(i % 2, i % 4 < 2);
        }
        for (int left = 7; left >= 0; left--) {
            due("undo() to " + left, left, desk.undo());
            due("told(14) at " + left, left, desk.told(14));
        }
        due("told(8), as behind the twelfth", 0, desk.told(8));
        due("told(4), as behind the twelfth", 3, desk.told(4));
        sentence("9: NOT: none");
        due("undo() behind the eighth", NOT, desk.undo());
        due("undo() of a new object", NOT, new ContractDesk().undo());
        desk.strike(0, true);
        due("undo() of one", 0, desk.undo());
        due("undo() again", NOT, desk.undo());
        sentence("9: what is undone is not itself undone");
        desk.answer(0, true);
        desk.answer(1, true);
        desk.undo();
        desk.answer(2, true);
        due("undo() of the answer behind", 1, desk.undo());
        due("told(3)", 1, desk.told(3));
        due("undo() of the first", 0, desk.undo());
        due("told(3) at last", 0, desk.told(3));
    }

    private static void promise10() {
        sentence("10: The ANSWER; NONE");
        desk = new ContractDesk();
        desk.answer(0, true);
        desk.answer(5, false);
        int[] answers = {1, NONE, NONE, NONE, NONE, 0};
        for (int q = 0; q < 6; q++) {
            due("answerOf(" + q + ")", answers[q], desk.answerOf(q));
        }
        sentence("10: UNKNOWN");
        refusedFrom("answerOf()", 6, UNKNOWN, q -> desk.answerOf(q));
    }

    private static void promise11() {
        sentence("11: 0 CLAUSES, 1 parts, 2 letters of THE TEXT at their bounds");
        start("c(" + "d0".repeat(30) + "c()".repeat(15) + ")");
        due("told(0)", 16, desk.told(0));
        due("told(1)", 30, desk.told(1));
        due("told(2)", 0, desk.told(2));
        Check.feed(desk, " ".repeat(240));
        due("told(2), full", 240, desk.told(2));
        sentence("11: 3 QUESTIONS with an ANSWER, a no as a yes");
        start("c-0()");
        desk.answer(0, false);
        due("told(3)", 1, desk.told(3));
        sentence("11: 4 IN FORCE NOW, 5 SURE, 6 NEVER, 7 OPEN, 8 STRUCK at their bounds");
        start("c()".repeat(16));
        int[] all = {65535, 65535, 0, 0, 0};
        int[] none = {0, 0, 65535, 0, 65535};
        for (int what = 4; what <= 8; what++) {
            due("told(" + what + "), nothing struck", all[what - 4], desk.told(what));
        }
        for (int c = 0; c < 16; c++) {
            desk.strike(c, true);
        }
        for (int what = 4; what <= 8; what++) {
            due("told(" + what + "), all struck", none[what - 4], desk.told(what));
        }
        start("c-0()".repeat(16));
        due("told(7), all open", 65535, desk.told(7));
        due("told(4), all in force now", 65535, desk.told(4));
        sentence("11: 12 FIRST (NONE)");
        start("c(u0)");
        due("told(12)", NONE, desk.told(12));
        sentence("11: 9 WRONG, 13 signs of what is WRITTEN, 14 how many can be undone, of none");
        start("c+0(u0)");
        due("told(9)", 0, desk.told(9));
        due("told(13)", 0, desk.told(13));
        due("told(14)", 0, desk.told(14));
    }

    private static void promise11Bounds() {
        sentence("11: OUTSIDE");
        start("c()");
        refusedFrom("told()", 15, OUTSIDE, what -> desk.told(what));
        due("told(14) is not", 0, desk.told(14));
        due("told(0) is not", 1, desk.told(0));
    }

    private static void promise12() {
        sentence("12: 0 BARE, 1 DOUBLED, 2 IDLE, 3 those that DANGLE, 4 ROUND TERMS, of none");
        desk = new ContractDesk();
        for (int what = 0; what <= 4; what++) {
            due("wrong(" + what + ")", 0, desk.wrong(what));
        }
        sentence("12: 2 IDLE (how many TERMS)");
        start("c(d0d7d7)");
        due("wrong(2)", 2, desk.wrong(2));
        sentence("12: 4 ROUND TERMS (a SET)");
        start("c(d7u7)");
        due("wrong(4)", 128, desk.wrong(4));
        sentence("12: 5 the CLAUSE of the first part that is BARE, DOUBLED, or DANGLES");
        start("c(d0u0)c(c(u1))c(d0)c(r5)c+0()");
        due("wrong(5), bare", 2, desk.wrong(5));
        due("wrong(6), bare", 2, desk.wrong(6));
        desk.strike(2, true);
        due("wrong(5), doubled", 3, desk.wrong(5));
        due("wrong(6), doubled", 3, desk.wrong(6));
        desk.strike(3, true);
        due("wrong(5), dangling", 4, desk.wrong(5));
        due("wrong(6), dangling", 4, desk.wrong(6));
        start("c(d0d0c(u1))");
        due("wrong(5), of two the first", 0, desk.wrong(5));
        start("c(c(u1)d0d0)");
        due("wrong(5), as told, not by clauses", 1, desk.wrong(5));
        sentence("12: 6 the place of that part among all parts");
        start("c+0(d0d1)c(u0)");
        due("wrong(6), those not in force count", 2, desk.wrong(6));
        start("c(" + "d0".repeat(1) + "u0".repeat(28) + "u7)");
        due("wrong(6), the last of thirty", 29, desk.wrong(6));
        start("c(c(u1)d0d0)");
        due("wrong(6), the first", 0, desk.wrong(6));
        sentence("12: 5, 6 (NONE)");
        start("c(d0u0)c(d1)");
        due("wrong(5), round and idle are no parts", NONE, desk.wrong(5));
        due("wrong(6), round and idle are no parts", NONE, desk.wrong(6));
        start("c(" + "r0".repeat(30) + ")");
        due("wrong(5), thirty parts and none", NONE, desk.wrong(5));
        due("wrong(6), thirty parts and none", NONE, desk.wrong(6));
        due("wrong(5) of no clauses", NONE, new ContractDesk().wrong(5));
        due("wrong(6) of no clauses", NONE, new ContractDesk().wrong(6));
        sentence("12: OUTSIDE");
        refusedFrom("wrong()", 7, OUTSIDE, what -> desk.wrong(what));
    }

    private static void promise13() {
        sentence("13: 0 the one around it (NONE), 1 how deep (0: in none), 2 SUB-CLAUSES (a SET)");
        start("c(".repeat(16) + ")".repeat(16));
        for (int c = 0; c < 16; c++) {
            due("clause(" + c + ", 0)", c - 1, desk.clause(c, 0));
            due("clause(" + c + ", 1)", c, desk.clause(c, 1));
            due("clause(" + c + ", 2)", c == 15 ? 0 : 2 << c, desk.clause(c, 2));
        }
        start("c(" + "c()".repeat(15) + ")");
        due("clause(0, 2), all the others", 65534, desk.clause(0, 2));
        due("clause(15, 0)", 0, desk.clause(15, 0));
        sentence("13: 6 its own parts (how many)");
        start("c(c(" + "u0".repeat(29) + ")d0)c()");
        due("clause(0, 6)", 1, desk.clause(0, 6));
        due("clause(1, 6)", 29, desk.clause(1, 6));
        due("clause(2, 6)", 0, desk.clause(2, 6));
        sentence("13: 7 1 it HOLDS NOW, 8 1 it is IN FORCE NOW, 0 not");
        start("c+0(c())");
        due("clause(0, 7)", 0, desk.clause(0, 7));
        due("clause(0, 8)", 0, desk.clause(0, 8));
        due("clause(1, 7), it holds", 1, desk.clause(1, 7));
        due("clause(1, 8), and is not in force", 0, desk.clause(1, 8));
        desk.answer(0, true);
        due("clause(1, 8) by yes", 1, desk.clause(1, 8));
        sentence("13: 9 CLAUSES that refer to it (a SET, IN FORCE or not)");
        start("c(r0r0)c+0(r0)" + "c()".repeat(13) + "c(r0)");
        due("clause(0, 9)", 32771, desk.clause(0, 9));
        desk.strike(15, true);
        due("clause(0, 9) with a struck one", 32771, desk.clause(0, 9));
        due("clause(15, 9) of none", 0, desk.clause(15, 9));
        sentence("13: UNKNOWN");
        start("c()c()");
        refusedFrom("clause(c, 0)", 2, UNKNOWN, c -> desk.clause(c, 0));
        refusedFrom("clause(c, 10)", 2, UNKNOWN, c -> desk.clause(c, 10));
        sentence("13: OUTSIDE");
        refusedFrom("clause(1, what)", 10, OUTSIDE, what -> desk.clause(1, what));
    }

    private static void promise14() {
        sentence("14: Part k of a CLAUSE (its own, without SUB-CLAUSES)");
        start("c(d7c(u1)u6c(r0)r15)" + "c()".repeat(13));
        int[][] own = {{0, 7}, {1, 6}, {2, 15}};
        for (int k = 0; k < 3; k++) {
            due("part(0, " + k + ", 0)", own[k][0], desk.part(0, k, 0));
            due("part(0, " + k + ", 1)", own[k][1], desk.part(0, k, 1));
        }
        sentence("14: NONE: not so many");
        due("part(0, 3, 0)", NONE, desk.part(0, 3, 0));
        due("part(0, 3, 1)", NONE, desk.part(0, 3, 1));
        due("part(1, 1, 0)", NONE, desk.part(1, 1, 0));
        due("part(15, 0, 0), none at all", NONE, desk.part(15, 0, 0));
        noneAbove("part(0, k, 0)", k -> desk.part(0, k, 0));
        noneAbove("part(0, k, 1)", k -> desk.part(0, k, 1));
        start("c(" + "d0".repeat(29) + "u7)");
        due("part(0, 29, 1), the last of thirty", 7, desk.part(0, 29, 1));
        due("part(0, 30, 1)", NONE, desk.part(0, 30, 1));
        sentence("14: UNKNOWN");
        refusedFrom("part(c, 0, 0)", 1, UNKNOWN, c -> desk.part(c, 0, 0));
        refusedFrom("part(c, -1, 2)", 1, UNKNOWN, c -> desk.part(c, -1, 2));
        sentence("14: OUTSIDE (what, k below 0)");
        refusedFrom("part(0, 0, what)", 2, OUTSIDE, what -> desk.part(0, 0, what));
        refusedFrom("part(0, 30, what), not so many", 2, OUTSIDE, what -> desk.part(0, 30, what));
        refusedBelow("part(0, k, 0)", OUTSIDE, k -> desk.part(0, k, 0));
        refusedBelow("part(0, k, 1)", OUTSIDE, k -> desk.part(0, k, 1));
    }

    private static void promise15() {
        sentence("15: The k-th figure of the NUMBER of a CLAUSE (0 the outermost)");
        start("c()".repeat(9) + "c(c()c(c()))c-0()");
        int[] number = {10, 2, 1};
        for (int k = 0; k < 3; k++) {
            due("number(12, " + k + ")", number[k], desk.number(12, k));
        }
        sentence("15: NONE: not so many");
        due("number(12, 3)", NONE, desk.number(12, 3));
        due("number(0, 1)", NONE, desk.number(0, 1));
        noneAbove("number(12, k)", k -> desk.number(12, k));
        sentence("15: NONE: it is not IN FORCE NOW");
        due("number(13, 0), in force", 11, desk.number(13, 0));
        desk.answer(0, true);
        due("number(13, 0)", NONE, desk.number(13, 0));
        desk.strike(9, true);
        due("number(9, 0), struck", NONE, desk.number(9, 0));
        due("number(12, 2), in a struck one", NONE, desk.number(12, 2));
        sentence("15: UNKNOWN");
        refusedFrom("number(c, 0)", 14, UNKNOWN, c -> desk.number(c, 0));
        refusedFrom("number(c, -1)", 14, UNKNOWN, c -> desk.number(c, -1));
        sentence("15: OUTSIDE: k below 0");
        refusedBelow("number(0, k)", OUTSIDE, k -> desk.number(0, k));
        refusedBelow("number(13, k), not in force", OUTSIDE, k -> desk.number(13, k));
    }

    private static void promise16() {
        sentence("16: 0 QUESTIONS that MATTER for it (a SET), 1 SETTLES, 2 BRINGS, of one that is never");
        start("c+0(c-0())c+5()c()");
        for (int what = 0; what <= 3; what++) {
            due("hangs(1, " + what + ")", 0, desk.hangs(1, what));
        }
        sentence("16: 3 2 it is SURE, 1 OPEN, 0 NEVER");
        int[] surety = {1, 0, 1, 2};
        for (int c = 0; c < 4; c++) {
            due("hangs(" + c + ", 3)", surety[c], desk.hangs(c, 3));
        }
        desk.answer(5, true);
        due("hangs(2, 3) by yes", 2, desk.hangs(2, 3));
        due("hangs(2, 0) by yes", 0, desk.hangs(2, 0));
        desk.answer(5, false);
        due("hangs(2, 3) by no", 0, desk.hangs(2, 3));
        desk.strike(3, true);
        due("hangs(3, 3), struck", 0, desk.hangs(3, 3));
        sentence("16: UNKNOWN");
        refusedFrom("hangs(c, 0)", 4, UNKNOWN, c -> desk.hangs(c, 0));
        refusedFrom("hangs(c, 4)", 4, UNKNOWN, c -> desk.hangs(c, 4));
        sentence("16: OUTSIDE");
        refusedFrom("hangs(3, what)", 4, OUTSIDE, what -> desk.hangs(3, what));
    }

    private static void promise17() {
        sentence("17: 0 how often it is defined, 1 used");
        start("c(" + "d7".repeat(15) + "u7".repeat(15) + ")");
        due("term(7, 0)", 15, desk.term(7, 0));
        due("term(7, 1)", 15, desk.term(7, 1));
        due("term(0, 0), never", 0, desk.term(0, 0));
        due("term(0, 1), never", 0, desk.term(0, 1));
        sentence("17: Of a TERM NOW");
        desk.strike(0, true);
        for (int what = 0; what <= 4; what++) {
            due("term(7, " + what + "), struck", what == 2 ? NONE : 0, desk.term(7, what));
        }
        sentence("17: 2 the CLAUSE that defines it first (NONE)");
        start("c(c+0(d0)d0)c(d0)c(u1)");
        due("term(0, 2)", 0, desk.term(0, 2));
        desk.answer(0, true);
        due("term(0, 2), one within, ahead", 1, desk.term(0, 2));
        desk.strike(0, true);
        due("term(0, 2), the next", 2, desk.term(0, 2));
        due("term(1, 2), used alone", NONE, desk.term(1, 2));
        sentence("17: 3 1 it is ROUND, 0 not, 4 TERMS it hangs on (a SET)");
        start("c(d0u0u1u2u3u4u5u6u7)");
        due("term(0, 4), all", 255, desk.term(0, 4));
        due("term(0, 3)", 1, desk.term(0, 3));
        due("term(1, 3)", 0, desk.term(1, 3));
        due("term(1, 4)", 0, desk.term(1, 4));
        sentence("17: UNKNOWN");
        refusedFrom("term(t, 0)", 8, UNKNOWN, t -> desk.term(t, 0));
        refusedFrom("term(t, 5)", 8, UNKNOWN, t -> desk.term(t, 5));
        sentence("17: OUTSIDE");
        refusedFrom("term(7, what)", 5, OUTSIDE, what -> desk.term(7, what));
    }

    private static void promise18() {
        sentence("18: By full ANSWERS (a SET of QUESTIONS with yes, 0 .. 63)");
        start("c-0-1-2-3-4-5(u0)c+0+1+2+3+4+5(d0u0)c(d0)");
        due("by(0, 0)", 5, desk.by(0, 0));
        due("by(63, 0)", 6, desk.by(63, 0));
        due("by(62, 0)", 4, desk.by(62, 0));
        due("by(0, 1), bare", 1, desk.by(0, 1));
        due("by(63, 1), doubled, round", 2, desk.by(63, 1));
        due("by(62, 1)", 0, desk.by(62, 1));
        sentence("18: whatever the ANSWERS are");
        desk.answer(0, false);
        desk.answer(5, false);
        due("by(63, 0)", 6, desk.by(63, 0));
        due("told(3), as it was", 33, desk.told(3));
        sentence("18: OUTSIDE");
        refusedFrom("by(answers, 0)", 64, OUTSIDE, answers -> desk.by(answers, 0));
        refusedFrom("by(answers, 1)", 64, OUTSIDE, answers -> desk.by(answers, 1));
        refusedFrom("by(0, what)", 2, OUTSIDE, what -> desk.by(0, what));
        refusedFrom("by(63, what)", 2, OUTSIDE, what -> desk.by(63, what));
        due("by(64, 2)", OUTSIDE, desk.by(64, 2));
    }

    private static void promise19() {
        sentence("19: Sign i of what is WRITTEN");
        start("c(".repeat(15) + "c(" + "r15".repeat(30) + ")" + ")".repeat(15));
        int last = desk.told(13) - 1;
        due("told(13), the most signs", 16 * 15 + 16 + 32 + 30 * 33, desk.told(13));
        due("sign(0)", '1', desk.sign(0));
        due("sign(1)", ' ', desk.sign(1));
        due("sign(last)", ';', desk.sign(last));
        due("sign(last - 1)", ']', desk.sign(last - 1));
        sentence("19: NONE: not so many");
        due("sign(last + 1)", NONE, desk.sign(last + 1));
        start("c+0()");
        due("sign(0), nothing is in force", NONE, desk.sign(0));
        desk.answer(0, true);
        due("sign(2)", ';', desk.sign(2));
        due("sign(3)", NONE, desk.sign(3));
        noneAbove("sign()", i -> desk.sign(i));
        sentence("19: OUTSIDE: below 0");
        refusedBelow("sign()", OUTSIDE, i -> desk.sign(i));
    }

    private static void promise20() {
        sentence("20: IMAGE i becomes what is so: 1");
        start("c()");
        due("keep(0)", 1, desk.keep(0));
        desk.strike(0, true);
        due("keep(1)", 1, desk.keep(1));
        desk.answer(0, true);
        due("keep(0) anew", 1, desk.keep(0));
        desk.forget(0);
        desk.strike(0, false);
        desk.goBack(0);
        due("told(8) of 0, as at the latest keep(0)", 1, desk.told(8));
        due("told(3) of 0, as at the latest keep(0)", 1, desk.told(3));
        desk.goBack(1);
        due("told(8) of 1", 1, desk.told(8));
        due("told(3) of 1", 0, desk.told(3));
        sentence("20: (nothing can be undone then)");
        desk.answer(3, true);
        desk.keep(0);
        due("told(14)", 0, desk.told(14));
        due("undo()", NOT, desk.undo());
        due("answerOf(3), it stays", 1, desk.answerOf(3));
        sentence("20: UNKNOWN");
        refusedFrom("keep()", 2, UNKNOWN, i -> desk.keep(i));
    }

    private static void promise21() {
        sentence("21: What is so becomes IMAGE i: 1");
        start("c+0()");
        desk.keep(1);
        desk.drift(1);
        desk.strike(0, true);
        due("goBack(1)", 1, desk.goBack(1));
        due("told(3)", 0, desk.told(3));
        due("told(8)", 0, desk.told(8));
        due("told(7), reckoned anew", 1, desk.told(7));
        due("goBack(1) again, the image stays", 1, desk.goBack(1));
        sentence("21: THE TEXT is in no IMAGE");
        Check.feed(desk, "c()");
        desk.goBack(1);
        due("told(2)", 3, desk.told(2));
        sentence("21: (nothing can be undone then)");
        desk.answer(0, true);
        desk.goBack(1);
        due("told(14)", 0, desk.told(14));
        due("undo()", NOT, desk.undo());
        sentence("21: NOT: it was not kept");
        due("goBack(0)", NOT, desk.goBack(0));
        due("goBack(1) of a new object", NOT, new ContractDesk().goBack(1));
        sentence("21: UNKNOWN");
        refusedFrom("goBack()", 2, UNKNOWN, i -> desk.goBack(i));
    }
}
