/** The promises 1 to 21 in turn: ordinary inputs, the edges that the document names, refusals and their order. */
public final class PromisesTest {
    private static final Check CHECK = new Check("PromisesTest");
    private static final int NONE = -1, UNKNOWN = -1000000001, OUTSIDE = -1000000002, NOT = -1000000003, FULL = -1000000004;
    private static final int LOWEST = Integer.MIN_VALUE, HIGHEST = Integer.MAX_VALUE;

    private static ContractDesk desk;

    private static void due(String call, int want, int got) {
        CHECK.due(call, want, got);
    }

    private static void start(String text) {
        desk = Check.desk(text);
    }

    public static void main(String[] args) {
        constants();
        promise1();
        promise2();
        promise3();
        promise3Fault();
        promise4();
        promise5();
        promise6();
        promise7();
        promise8();
        promise9();
        promise9Kinds();
        promise10();
        promise11();
        promise11Force();
        promise11Outlook();
        promise11Ways();
        promise12();
        promise12Round();
        promise13();
        promise14();
        promise15();
        promise16();
        promise17();
        promise18();
        promise19();
        promise20();
        promise21();
        CHECK.end();
    }

    private static void constants() {
        due("NONE", NONE, ContractDesk.NONE);
        due("UNKNOWN", UNKNOWN, ContractDesk.UNKNOWN);
        due("OUTSIDE", OUTSIDE, ContractDesk.OUTSIDE);
        due("NOT", NOT, ContractDesk.NOT);
        due("FULL", FULL, ContractDesk.FULL);
    }

    private static void promise1() {
        desk = new ContractDesk();
        for (int what = 0; what <= 14; what++) {
            due("1: told(" + what + ")", what == 11 ? 64 : 0, desk.told(what));
        }
        for (int what = 0; what <= 6; what++) {
            due("1: wrong(" + what + ")", what >= 5 ? NONE : 0, desk.wrong(what));
        }
        for (int q = 0; q < 6; q++) {
            due("1: answerOf(" + q + ")", NONE, desk.answerOf(q));
        }
        due("1: fault()", NONE, desk.fault());
        due("1: sign(0)", NONE, desk.sign(0));
        due("1: undo()", NOT, desk.undo());
        due("1: goBack(0)", NOT, desk.goBack(0));
        due("1: goBack(1)", NOT, desk.goBack(1));
    }

    private static void promise2() {
        desk = new ContractDesk();
        due("2: feed(0)", 1, desk.feed(0));
        due("2: feed(255)", 2, desk.feed(255));
        due("2: feed(-1)", OUTSIDE, desk.feed(-1));
        due("2: feed(256)", OUTSIDE, desk.feed(256));
        due("2: feed(LOWEST)", OUTSIDE, desk.feed(LOWEST));
        due("2: feed(HIGHEST)", OUTSIDE, desk.feed(HIGHEST));
        due("2: told(2)", 2, desk.told(2));
        for (int n = 3; n <= 240; n++) {
            due("2: feed(32), the " + n + "th", n, desk.feed(32));
        }
        due("2: feed(32), the 241st", FULL, desk.feed(32));
        due("2: feed(256) when full", OUTSIDE, desk.feed(256));
        due("2: told(2) when full", 240, desk.told(2));
        desk.contract();
        due("2: feed(32) anew", 1, desk.feed(32));
    }

    private static void promise3() {
        start("c()c()c()");
        desk.answer(1, true);
        desk.answer(4, false);
        desk.strike(2, true);
        desk.keep(0);
        desk.keep(1);
        desk.answer(2, true);
        Check.feed(desk, "c+1()c()");
        due("3: contract()", 2, desk.contract());
        due("3: told(2)", 0, desk.told(2));
        due("3: told(0)", 2, desk.told(0));
        due("3: told(3), answers stay", 22, desk.told(3));
        due("3: answerOf(1)", 1, desk.answerOf(1));
        due("3: answerOf(4)", 0, desk.answerOf(4));
        due("3: told(8), nothing struck", 0, desk.told(8));
        due("3: told(4)", 3, desk.told(4));
        due("3: told(14)", 0, desk.told(14));
        due("3: undo()", NOT, desk.undo());
        due("3: goBack(0)", NOT, desk.goBack(0));
        due("3: goBack(1)", NOT, desk.goBack(1));
        due("3: contract() of an empty text", 0, desk.contract());
        due("3: told(0) of an empty text", 0, desk.told(0));
        due("3: told(4) of an empty text", 0, desk.told(4));
    }

    private static void promise3Fault() {
        start("c(d1)c()c()");
        desk.strike(1, true);
        desk.keep(0);
        desk.strike(2, true);
        desk.answer(3, true);
        Check.feed(desk, "c(d2d8)");
        due("3: contract() with a fault", -12, desk.contract());
        due("3: told(2), empty with a fault, too", 0, desk.told(2));
        due("3: told(0) after a fault", 3, desk.told(0));
        due("3: told(1) after a fault", 1, desk.told(1));
        due("3: part(0, 0, 1) after a fault", 1, desk.part(0, 0, 1));
        due("3: told(8) after a fault", 6, desk.told(8));
        due("3: told(4) after a fault", 1, desk.told(4));
        due("3: told(14) after a fault", 2, desk.told(14));
        due("3: undo() after a fault", 1, desk.undo());
        due("3: goBack(0) after a fault", 1, desk.goBack(0));
        due("3: told(8) after going back", 2, desk.told(8));
    }

    private static void promise4() {
        desk = new ContractDesk();
        Check.feed(desk, "c(u)");
        due("4: fault() ahead of contract()", NONE, desk.fault());
        due("4: contract()", -11, desk.contract());
        due("4: fault()", 3, desk.fault());
        due("4: fault() again", 3, desk.fault());
        desk.answer(0, true);
        Check.feed(desk, "c");
        due("4: fault() of the latest contract()", 3, desk.fault());
        due("4: contract(), the end", -11, desk.contract());
        due("4: fault(), the end", 1, desk.fault());
        due("4: contract() of an empty text", 0, desk.contract());
        due("4: fault() of none", NONE, desk.fault());
    }

    private static void promise5() {
        desk = new ContractDesk();
        due("5: answer(0, yes)", NONE, desk.answer(0, true));
        due("5: answer(0, yes) again", NOT, desk.answer(0, true));
        due("5: answer(0, no)", 1, desk.answer(0, false));
        due("5: answer(0, no) again", NOT, desk.answer(0, false));
        due("5: answer(0, yes) anew", 0, desk.answer(0, true));
        due("5: answer(5, no)", NONE, desk.answer(5, false));
        due("5: answer(6, yes)", UNKNOWN, desk.answer(6, true));
        due("5: answer(-1, yes)", UNKNOWN, desk.answer(-1, true));
        due("5: answer(LOWEST, no)", UNKNOWN, desk.answer(LOWEST, false));
        due("5: answer(HIGHEST, no)", UNKNOWN, desk.answer(HIGHEST, false));
        due("5: answer(32, no)", UNKNOWN, desk.answer(32, false));
        due("5: told(3)", 33, desk.told(3));
        due("5: told(14), what is refused is not kept", 4, desk.told(14));
    }

    private static void promise6() {
        desk = new ContractDesk();
        due("6: forget(2) of none", NOT, desk.forget(2));
        desk.answer(2, false);
        desk.answer(3, true);
        due("6: forget(2)", 0, desk.forget(2));
        due("6: forget(2) again", NOT, desk.forget(2));
        due("6: forget(3)", 1, desk.forget(3));
        due("6: answerOf(3)", NONE, desk.answerOf(3));
        due("6: forget(6)", UNKNOWN, desk.forget(6));
        due("6: forget(-1)", UNKNOWN, desk.forget(-1));
        due("6: told(3)", 0, desk.told(3));
        due("6: told(14)", 4, desk.told(14));
        start("c+3()");
        desk.answer(3, true);
        due("6: told(4) by yes", 1, desk.told(4));
        desk.forget(3);
        due("6: told(4), none is as no", 0, desk.told(4));
    }

    private static void promise7() {
        start("c(c()c())c()");
        due("7: strike(0, is)", 1, desk.strike(0, true));
        due("7: told(4)", 8, desk.told(4));
        due("7: strike(0, is) again", NOT, desk.strike(0, true));
        due("7: strike(3, is)", 0, desk.strike(3, true));
        due("7: strike(1, not)", NOT, desk.strike(1, false));
        due("7: strike(0, not)", 3, desk.strike(0, false));
        due("7: told(8)", 8, desk.told(8));
        due("7: strike(1, is)", 2, desk.strike(1, true));
        due("7: number(2, 1) anew", 1, desk.number(2, 1));
        due("7: strike(4, is)", UNKNOWN, desk.strike(4, true));
        due("7: strike(-1, not)", UNKNOWN, desk.strike(-1, false));
        due("7: strike(16, is)", UNKNOWN, desk.strike(16, true));
        due("7: strike(32, is)", UNKNOWN, desk.strike(32, true));
        due("7: told(8) at last", 10, desk.told(8));
    }

    private static void promise8() {
        // By hand, of 7: 117649 (1), 1977326743 (1), 621132276 (0), 452154665 (2), 1566311569 (1), 1143995257 (1).
        start("c+0()c+1()c-2()c-3()");
        desk.answer(3, true);
        due("8: drift(7)", 4, desk.drift(7));
        int[] byLots = lots(7);
        for (int q = 0; q < 6; q++) {
            due("8: answerOf(" + q + ") by lots", byLots[q], desk.answerOf(q));
        }
        due("8: answerOf(3), the lot is none", NONE, desk.answerOf(3));
        due("8: drift(7) again is not refused", 4, desk.drift(7));
        due("8: drift(0)", OUTSIDE, desk.drift(0));
        due("8: drift(-7)", OUTSIDE, desk.drift(-7));
        due("8: drift(1000000)", OUTSIDE, desk.drift(1000000));
        due("8: told(14)", 3, desk.told(14));
        for (int seed : new int[] {1, 2, 3, 999999, 127773, 500000}) {
            desk.drift(seed);
            int[] due = lots(seed);
            for (int q = 0; q < 6; q++) {
                due("8: answerOf(" + q + ") by lots of " + seed, due[q], desk.answerOf(q));
            }
        }
    }

    private static int[] lots(int seed) {
        int[] lots = new int[6];
        java.math.BigInteger x = java.math.BigInteger.valueOf(seed);
        for (int q = 0; q < 6; q++) {
            x = x.multiply(java.math.BigInteger.valueOf(16807)).mod(java.math.BigInteger.valueOf(2147483647L));
            int lot = x.mod(java.math.BigInteger.valueOf(3)).intValue();
            lots[q] = lot == 2 ? NONE : lot;
        }
        return lots;
    }

    private static void promise9() {
        desk = new ContractDesk();
        due("9: undo() of none", NOT, desk.undo());
        for (int i = 0; i < 10; i++) {
            desk.answer(0, i % 2 == 0);
        }
        desk.answer(1, true);
        due("9: told(14), 8 at most", 8, desk.told(14));
        due("9: undo()", 7, desk.undo());
        due("9: answerOf(1)", NONE, desk.answerOf(1));
        due("9: answerOf(0)", 0, desk.answerOf(0));
        for (int left = 6; left >= 0; left--) {
            due("9: undo() to " + left, left, desk.undo());
        }
        due("9: undo(), the oldest are lost", NOT, desk.undo());
        due("9: answerOf(0) as after the third", 1, desk.answerOf(0));
        due("9: answer(0, no)", 1, desk.answer(0, false));
        due("9: undo() of it alone", 0, desk.undo());
    }

    private static void promise9Kinds() {
        start("c+0()c()");
        desk.answer(0, true);
        desk.forget(0);
        desk.strike(1, true);
        desk.strike(1, true);
        desk.drift(7);
        due("9: told(14)", 4, desk.told(14));
        due("9: undo() of drift()", 3, desk.undo());
        due("9: told(3) ahead of drift()", 0, desk.told(3));
        due("9: told(8) ahead of drift()", 2, desk.told(8));
        due("9: undo() of strike()", 2, desk.undo());
        due("9: told(8) ahead of strike()", 0, desk.told(8));
        due("9: told(4) ahead of strike()", 2, desk.told(4));
        due("9: undo() of forget()", 1, desk.undo());
        due("9: told(4) ahead of forget()", 3, desk.told(4));
        due("9: undo() of answer()", 0, desk.undo());
        due("9: answerOf(0) ahead of all", NONE, desk.answerOf(0));
    }

    private static void promise10() {
        desk = new ContractDesk();
        desk.answer(0, false);
        desk.answer(5, true);
        due("10: answerOf(0)", 0, desk.answerOf(0));
        due("10: answerOf(5)", 1, desk.answerOf(5));
        due("10: answerOf(1)", NONE, desk.answerOf(1));
        due("10: answerOf(6)", UNKNOWN, desk.answerOf(6));
        due("10: answerOf(-1)", UNKNOWN, desk.answerOf(-1));
        due("10: answerOf(LOWEST)", UNKNOWN, desk.answerOf(LOWEST));
        due("10: answerOf(HIGHEST)", UNKNOWN, desk.answerOf(HIGHEST));
    }

    private static void promise11() {
        start("c(d0u0r1)c+0(u1)");
        Check.feed(desk, "xyz");
        due("11: told(0)", 2, desk.told(0));
        due("11: told(1)", 4, desk.told(1));
        due("11: told(2)", 3, desk.told(2));
        due("11: told(4)", 1, desk.told(4));
        due("11: told(5)", 1, desk.told(5));
        due("11: told(6)", 0, desk.told(6));
        due("11: told(7)", 2, desk.told(7));
        due("11: told(9): it dangles, term 0 is round", 2, desk.told(9));
        due("11: told(13): '1 Aa[?];'", 8, desk.told(13));
        desk.answer(0, true);
        desk.answer(3, false);
        due("11: told(3)", 9, desk.told(3));
        due("11: told(9): bare, round", 2, desk.told(9));
        due("11: told(13): '1 Aa[2];2 b;'", 12, desk.told(13));
        due("11: told(14)", 2, desk.told(14));
        desk.strike(1, true);
        due("11: told(8)", 2, desk.told(8));
        due("11: told(6) of a struck one", 2, desk.told(6));
        due("11: told(15)", OUTSIDE, desk.told(15));
        due("11: told(-1)", OUTSIDE, desk.told(-1));
        due("11: told(LOWEST)", OUTSIDE, desk.told(LOWEST));
        due("11: told(HIGHEST)", OUTSIDE, desk.told(HIGHEST));
    }

    private static void promise11Force() {
        start("c*(r0)");
        due("11: told(4), itself does not count", 0, desk.told(4));
        start("c*(r1)c*(r0)");
        due("11: told(4), a round that none calls", 0, desk.told(4));
        start("c*(r1)c*(r0)c+0(r1)");
        due("11: told(4), the caller is not in force", 0, desk.told(4));
        desk.answer(0, true);
        due("11: told(4), the caller calls the round", 7, desk.told(4));
        desk.strike(1, true);
        due("11: told(4), the round is struck through", 4, desk.told(4));
        start("c*(c(r0))");
        due("11: told(4), one within does not call it", 0, desk.told(4));
        start("c(c*()c*()r1)");
        due("11: told(4), the one around calls", 3, desk.told(4));
        start("c+0(c())c(r1)");
        due("11: told(4), not called in but out of its clause", 4, desk.told(4));
        start("c+5(c-5())");
        due("11: told(6), never", 2, desk.told(6));
        start("c*(r1)c*(r2)c*(r3)c*(r4)c()c(r0)");
        due("11: told(4), a long row of callers", 63, desk.told(4));
        start("c(r1)" + "c*(r2)c*(r3)c*(r4)c*(r5)c*(r6)c*(r7)c*(r8)c*(r9)c*(r10)c*(r11)c*(r12)c*(r13)c*(r14)c*(r15)c*()");
        due("11: told(4), 16 in a row", 65535, desk.told(4));
        start("c*()c*(r0)c*(r1)c*(r2)c*(r3)c*(r4)c*(r5)c*(r6)c*(r7)c*(r8)c*(r9)c*(r10)c*(r11)c*(r12)c*(r13)c(r14)");
        due("11: told(4), 16 in a row backwards", 65535, desk.told(4));
    }

    private static void promise11Outlook() {
        start("c+0-1()c()c+2(c-2())");
        due("11: told(5)", 2, desk.told(5));
        due("11: told(6)", 8, desk.told(6));
        due("11: told(7)", 5, desk.told(7));
        due("11: told(10)", 7, desk.told(10));
        desk.answer(1, true);
        due("11: told(6) with 1 yes", 9, desk.told(6));
        due("11: told(10): 0 matters no more", 4, desk.told(10));
        desk.answer(2, false);
        due("11: told(10) at last", 0, desk.told(10));
        due("11: told(7) at last", 0, desk.told(7));
        start("c+0(r2)c-0(r2)c*()");
        due("11: told(5), called either way", 4, desk.told(5));
        due("11: told(10), called either way", 1, desk.told(10));
        start("c+0-0()");
        due("11: told(0) of a fault", 0, desk.told(0));
    }

    private static void promise11Ways() {
        start("c+0(d0)c(u0)");
        due("11: told(11)", 32, desk.told(11));
        due("11: told(12)", 1, desk.told(12));
        desk.answer(5, true);
        due("11: told(11) with 5 yes", 16, desk.told(11));
        due("11: told(12) with 5 yes", 33, desk.told(12));
        desk.answer(0, false);
        due("11: told(11), none", 0, desk.told(11));
        due("11: told(12), none", NONE, desk.told(12));
        start("c+5(d0u0)");
        due("11: told(11), round", 32, desk.told(11));
        due("11: told(12), least", 0, desk.told(12));
        start("c-5(r1)c+5()c+0(d1)c-0(d1)c+1(d1)");
        due("11: told(11), doubled, dangling", 16, desk.told(11));
        due("11: told(12), doubled, dangling", 32, desk.told(12));
        start("c(d0)");
        due("11: told(11), idle is not wrong", 64, desk.told(11));
    }

    private static void promise12() {
        start("c(u0d0u0d0d1)c(r2r1)c+0(u2)c(d2c(u3d2)d3)");
        due("12: wrong(0)", 2, desk.wrong(0));
        due("12: wrong(1)", 2, desk.wrong(1));
        due("12: wrong(2): 1 and 2", 2, desk.wrong(2));
        due("12: wrong(3)", 1, desk.wrong(3));
        due("12: wrong(5)", 0, desk.wrong(5));
        due("12: wrong(6)", 0, desk.wrong(6));
        desk.strike(0, true);
        due("12: wrong(0) without 0", 1, desk.wrong(0));
        due("12: wrong(1) without 0", 1, desk.wrong(1));
        due("12: wrong(5) without 0", 1, desk.wrong(5));
        due("12: wrong(6) without 0, among all parts", 5, desk.wrong(6));
        desk.answer(0, true);
        due("12: wrong(3) with it in force", 0, desk.wrong(3));
        due("12: wrong(5), a use ahead of its definition", 2, desk.wrong(5));
        due("12: wrong(6), a use ahead of its definition", 7, desk.wrong(6));
        start("c(c(d0)u0c(d1)u1)");
        due("12: wrong(0), in the order told", 0, desk.wrong(0));
        start("c(c(u0)d0c(d0))");
        due("12: wrong(0), ahead in the text", 1, desk.wrong(0));
        due("12: wrong(1), behind in the text", 1, desk.wrong(1));
        due("12: wrong(5), the one within", 1, desk.wrong(5));
        due("12: wrong(2), used is not idle", 0, desk.wrong(2));
        start("c()");
        due("12: wrong(5) of none", NONE, desk.wrong(5));
        due("12: wrong(6) of none", NONE, desk.wrong(6));
        start("c(d0u0)");
        due("12: wrong(5), a round is no part", NONE, desk.wrong(5));
        due("12: wrong(7)", OUTSIDE, desk.wrong(7));
        due("12: wrong(-1)", OUTSIDE, desk.wrong(-1));
        due("12: wrong(LOWEST)", OUTSIDE, desk.wrong(LOWEST));
    }

    private static void promise12Round() {
        start("c(d0u1)c(d1u2)c(d2u3)c+0(d3u0)c(d4u0)");
        due("12: wrong(4), open", 0, desk.wrong(4));
        desk.answer(0, true);
        due("12: wrong(4), round", 15, desk.wrong(4));
        start("c(d7c(u7))");
        due("12: wrong(4), not in clauses within", 0, desk.wrong(4));
        start("c(u7d7)");
        due("12: wrong(4), itself, used ahead", 128, desk.wrong(4));
        start("c(d0u0d1)c(d7u6)c(d6u7)");
        due("12: wrong(4), two rounds", 193, desk.wrong(4));
        start("c(d7u6)c(d6u5)c(d5u4)c(d4u3)c(d3u2)c(d2u1)c(d1u0)c(d0u7)");
        due("12: wrong(4), the longest", 255, desk.wrong(4));
        due("12: told(9), the longest: 7 bare, 8 round", 15, desk.told(9));
    }

    private static void promise13() {
        start("c+0-5(d1c*(r0c(u1))u2c+1())c(r1r0r0)");
        int[][] due = {
            {NONE, 0, 10, 1, 32, 0, 2, 0, 0, 18},
            {0, 1, 4, 0, 0, 1, 1, 1, 0, 16},
            {1, 2, 0, 0, 0, 0, 1, 1, 0, 0},
            {0, 1, 0, 2, 0, 0, 0, 0, 0, 0},
            {NONE, 0, 0, 0, 0, 0, 3, 1, 1, 0}};
        for (int c = 0; c < due.length; c++) {
            for (int what = 0; what <= 9; what++) {
                due("13: clause(" + c + ", " + what + ")", due[c][what], desk.clause(c, what));
            }
        }
        desk.answer(0, true);
        due("13: clause(0, 7) now", 1, desk.clause(0, 7));
        due("13: clause(1, 8) now", 1, desk.clause(1, 8));
        desk.strike(0, true);
        due("13: clause(0, 7), struck, it holds", 1, desk.clause(0, 7));
        due("13: clause(0, 8), struck", 0, desk.clause(0, 8));
        due("13: clause(0, 10)", OUTSIDE, desk.clause(0, 10));
        due("13: clause(0, -1)", OUTSIDE, desk.clause(0, -1));
        due("13: clause(5, 0)", UNKNOWN, desk.clause(5, 0));
        due("13: clause(-1, 0)", UNKNOWN, desk.clause(-1, 0));
        due("13: clause(5, 10)", UNKNOWN, desk.clause(5, 10));
        due("13: clause(HIGHEST, LOWEST)", UNKNOWN, desk.clause(HIGHEST, LOWEST));
    }

    private static void promise14() {
        start("c(d1c(u7)u2r01)");
        int[][] due = {{0, 1}, {1, 2}, {2, 1}, {NONE, NONE}};
        for (int k = 0; k < due.length; k++) {
            due("14: part(0, " + k + ", 0)", due[k][0], desk.part(0, k, 0));
            due("14: part(0, " + k + ", 1)", due[k][1], desk.part(0, k, 1));
        }
        due("14: part(1, 0, 0)", 1, desk.part(1, 0, 0));
        due("14: part(1, 0, 1)", 7, desk.part(1, 0, 1));
        due("14: part(1, 1, 0)", NONE, desk.part(1, 1, 0));
        due("14: part(0, HIGHEST, 0)", NONE, desk.part(0, HIGHEST, 0));
        due("14: part(0, -1, 0)", OUTSIDE, desk.part(0, -1, 0));
        due("14: part(0, LOWEST, 0)", OUTSIDE, desk.part(0, LOWEST, 0));
        due("14: part(0, 0, 2)", OUTSIDE, desk.part(0, 0, 2));
        due("14: part(0, 0, -1)", OUTSIDE, desk.part(0, 0, -1));
        due("14: part(0, 9, 2)", OUTSIDE, desk.part(0, 9, 2));
        due("14: part(2, 0, 0)", UNKNOWN, desk.part(2, 0, 0));
        due("14: part(-1, 0, 0)", UNKNOWN, desk.part(-1, 0, 0));
        due("14: part(2, -1, 2)", UNKNOWN, desk.part(2, -1, 2));
    }

    private static void promise15() {
        start("c+0()c(c()c+1()c(c()))c()");
        due("15: number(1, 0)", 1, desk.number(1, 0));
        due("15: number(1, 1)", NONE, desk.number(1, 1));
        due("15: number(4, 0)", 1, desk.number(4, 0));
        due("15: number(4, 1)", 2, desk.number(4, 1));
        due("15: number(5, 2)", 1, desk.number(5, 2));
        due("15: number(5, 3)", NONE, desk.number(5, 3));
        due("15: number(5, HIGHEST)", NONE, desk.number(5, HIGHEST));
        due("15: number(6, 0)", 2, desk.number(6, 0));
        due("15: number(0, 0), not in force", NONE, desk.number(0, 0));
        desk.answer(0, true);
        desk.answer(1, true);
        due("15: number(4, 0) anew", 2, desk.number(4, 0));
        due("15: number(4, 1) anew", 3, desk.number(4, 1));
        due("15: number(6, 0) anew", 3, desk.number(6, 0));
        due("15: number(0, -1)", OUTSIDE, desk.number(0, -1));
        due("15: number(0, LOWEST)", OUTSIDE, desk.number(0, LOWEST));
        due("15: number(7, 0)", UNKNOWN, desk.number(7, 0));
        due("15: number(-1, -1)", UNKNOWN, desk.number(-1, -1));
        start("c(".repeat(16) + ")".repeat(16));
        due("15: number(15, 15)", 1, desk.number(15, 15));
        due("15: number(15, 16)", NONE, desk.number(15, 16));
        start("c()".repeat(16));
        due("15: number(15, 0)", 16, desk.number(15, 0));
    }

    private static void promise16() {
        start("c+0+1+2()c-0()c+3(c-3())c()c+0(r6)c+1*(r7)c*()c+2(r6)");
        int[][] due = {{7, 1, 8, 1}, {1, 1, 32, 1}, {8, 1, 32, 1}, {0, 0, 0, 0}, {0, 0, 64, 2}};
        for (int c = 0; c < due.length; c++) {
            for (int what = 0; what <= 3; what++) {
                due("16: hangs(" + c + ", " + what + ")", due[c][what], desk.hangs(c, what));
            }
        }
        due("16: hangs(6, 0): 1, and 0 or 2", 7, desk.hangs(6, 0));
        due("16: hangs(6, 2)", 24, desk.hangs(6, 2));
        desk.answer(1, true);
        due("16: hangs(6, 0) with 1 yes", 5, desk.hangs(6, 0));
        due("16: hangs(6, 1) with 1 yes", 1, desk.hangs(6, 1));
        due("16: hangs(6, 2) with 1 yes", 24, desk.hangs(6, 2));
        due("16: hangs(0, 2) with 1 yes", 8, desk.hangs(0, 2));
        desk.answer(0, true);
        due("16: hangs(6, 3) at last", 2, desk.hangs(6, 3));
        due("16: hangs(6, 1) at last", 0, desk.hangs(6, 1));
        start("c+0+1(r2)c-0-1(r2)c*()");
        due("16: hangs(2, 1), two are wanted", 2, desk.hangs(2, 1));
        start("c+0+1+2(r4)c+0-1-2(r4)c-0+1-2(r4)c-0-1+2(r4)c*()");
        due("16: hangs(4, 1), three are wanted", 3, desk.hangs(4, 1));
        desk.answer(5, true);
        due("16: hangs(4, 1), one that does not matter", 3, desk.hangs(4, 1));
        desk.answer(1, true);
        due("16: hangs(4, 1), one of the three", 2, desk.hangs(4, 1));
        due("16: hangs(0, 4)", OUTSIDE, desk.hangs(0, 4));
        due("16: hangs(0, -1)", OUTSIDE, desk.hangs(0, -1));
        due("16: hangs(5, 0)", UNKNOWN, desk.hangs(5, 0));
        due("16: hangs(-1, 9)", UNKNOWN, desk.hangs(-1, 9));
    }

    private static void promise17() {
        start("c(c+0(d0u1u0)d0u2u2)c(d0u3)c(u0)");
        int[] due = {2, 1, 0, 0, 12};
        for (int what = 0; what <= 4; what++) {
            due("17: term(0, " + what + ")", due[what], desk.term(0, what));
        }
        due("17: term(2, 1)", 2, desk.term(2, 1));
        due("17: term(2, 2)", NONE, desk.term(2, 2));
        due("17: term(2, 4)", 0, desk.term(2, 4));
        desk.answer(0, true);
        int[] then = {3, 2, 1, 1, 15};
        for (int what = 0; what <= 4; what++) {
            due("17: term(0, " + what + ") then", then[what], desk.term(0, what));
        }
        due("17: term(7, 0)", 0, desk.term(7, 0));
        due("17: term(8, 0)", UNKNOWN, desk.term(8, 0));
        due("17: term(-1, 0)", UNKNOWN, desk.term(-1, 0));
        due("17: term(8, 5)", UNKNOWN, desk.term(8, 5));
        due("17: term(0, 5)", OUTSIDE, desk.term(0, 5));
        due("17: term(0, -1)", OUTSIDE, desk.term(0, -1));
        start("c(d0u1)c(d1u2)");
        due("17: term(0, 4), only what it hangs on at once", 2, desk.term(0, 4));
        due("17: term(0, 3), it comes to others alone", 0, desk.term(0, 3));
        start("c-0(d0u1)c+0(d0u1)c-0(d0u2)");
        due("17: term(0, 4) by no", 6, desk.term(0, 4));
        desk.answer(0, true);
        due("17: term(0, 4) by yes", 2, desk.term(0, 4));
    }

    private static void promise18() {
        start("c+0(u0)c-5(d0)c+0-5(d0r0)");
        desk.answer(0, true);
        desk.answer(5, true);
        due("18: by(0, 0), whatever the answers are", 2, desk.by(0, 0));
        due("18: by(1, 0)", 7, desk.by(1, 0));
        due("18: by(32, 0)", 0, desk.by(32, 0));
        due("18: by(63, 0)", 1, desk.by(63, 0));
        due("18: by(0, 1)", 0, desk.by(0, 1));
        due("18: by(1, 1): bare, doubled", 2, desk.by(1, 1));
        due("18: by(63, 1): bare", 1, desk.by(63, 1));
        desk.strike(0, true);
        due("18: by(1, 0) with a struck one", 6, desk.by(1, 0));
        due("18: by(1, 1) with a struck one: doubled, dangling", 2, desk.by(1, 1));
        due("18: by(64, 0)", OUTSIDE, desk.by(64, 0));
        due("18: by(-1, 1)", OUTSIDE, desk.by(-1, 1));
        due("18: by(0, 2)", OUTSIDE, desk.by(0, 2));
        due("18: by(0, -1)", OUTSIDE, desk.by(0, -1));
        due("18: by(HIGHEST, LOWEST)", OUTSIDE, desk.by(HIGHEST, LOWEST));
    }

    private static void written(String want) {
        String got = Check.written(desk);
        CHECK.holds("19: written is '" + got + "', due is '" + want + "'", want.equals(got));
        due("19: told(13)", want.length(), desk.told(13));
    }

    private static void promise19() {
        start("c(d0c(u7r3)d7c+0())c(r2r1)");
        written("1 AH;1.1 h[2];2 [?][1.1];");
        desk.answer(0, true);
        written("1 AH;1.1 h[2];1.2 ;2 [1.2][1.1];");
        desk.strike(0, true);
        written("1 [?][?];");
        due("19: sign(0)", '1', desk.sign(0));
        due("19: sign(8)", ';', desk.sign(8));
        due("19: sign(9)", NONE, desk.sign(9));
        due("19: sign(HIGHEST)", NONE, desk.sign(HIGHEST));
        due("19: sign(-1)", OUTSIDE, desk.sign(-1));
        due("19: sign(LOWEST)", OUTSIDE, desk.sign(LOWEST));
        start("c()".repeat(9) + "c(r10)c(r9r0r12)c(c())");
        written("1 ;2 ;3 ;4 ;5 ;6 ;7 ;8 ;9 ;10 [11];11 [10][1][12.1];12 ;12.1 ;");
        start("c(".repeat(16) + "r15".repeat(30) + ")".repeat(16));
        due("19: told(13), the longest number", 15 * 16 + 16 + 2 * 16 + 30 * 33, desk.told(13));
    }

    private static void promise20() {
        start("c()c()");
        desk.answer(2, true);
        desk.strike(1, true);
        due("20: keep(2)", UNKNOWN, desk.keep(2));
        due("20: keep(-1)", UNKNOWN, desk.keep(-1));
        due("20: keep(HIGHEST)", UNKNOWN, desk.keep(HIGHEST));
        due("20: told(14), refused", 2, desk.told(14));
        due("20: keep(0)", 1, desk.keep(0));
        due("20: told(14)", 0, desk.told(14));
        due("20: undo()", NOT, desk.undo());
        due("20: told(8), as it was", 2, desk.told(8));
        due("20: answerOf(2), as it was", 1, desk.answerOf(2));
        desk.answer(2, false);
        due("20: keep(1)", 1, desk.keep(1));
        desk.strike(1, false);
        desk.keep(0);
        desk.strike(0, true);
        due("20: goBack(0), the latest kept", 1, desk.goBack(0));
        due("20: told(8), the latest kept", 0, desk.told(8));
        due("20: goBack(1)", 1, desk.goBack(1));
        due("20: told(8) of image 1", 2, desk.told(8));
        due("20: answerOf(2) of image 1", 0, desk.answerOf(2));
    }

    private static void promise21() {
        start("c+0()c()");
        due("21: goBack(0), not kept", NOT, desk.goBack(0));
        due("21: goBack(2)", UNKNOWN, desk.goBack(2));
        due("21: goBack(-1)", UNKNOWN, desk.goBack(-1));
        desk.keep(0);
        desk.answer(0, true);
        desk.strike(1, true);
        due("21: goBack(1), not kept", NOT, desk.goBack(1));
        due("21: told(14), refused", 2, desk.told(14));
        due("21: goBack(0)", 1, desk.goBack(0));
        due("21: told(14)", 0, desk.told(14));
        due("21: undo()", NOT, desk.undo());
        due("21: answerOf(0)", NONE, desk.answerOf(0));
        due("21: told(8)", 0, desk.told(8));
        due("21: told(4)", 2, desk.told(4));
        desk.strike(1, true);
        due("21: goBack(0) again", 1, desk.goBack(0));
        due("21: told(4) again", 2, desk.told(4));
    }
}
