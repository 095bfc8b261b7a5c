import java.util.function.ToIntFunction;

/** The boundary cases of the document's 'Terms': one test for each sentence that names one. */
public final class TermsEdgesTest {
    private static final Check CHECK = new Check("TermsEdgesTest");
    private static final int NONE = -1, UNKNOWN = -1000000001, OUTSIDE = -1000000002, NOT = -1000000003, FULL = -1000000004;
    private static final int LOWEST = Integer.MIN_VALUE, HIGHEST = Integer.MAX_VALUE;

    private static ContractDesk desk;

    private static void sentence(String words) {
        CHECK.sentence(words);
    }

    private static void due(String call, int want, int got) {
        CHECK.due(call, want, got);
    }

    private static void start(String text) {
        desk = Check.desk(text);
    }

    /** A text without a fault, read by a new desk, which stays for what is asked next. */
    private static void sound(String text, int clauses) {
        desk = new ContractDesk();
        Check.feed(desk, text);
        due("contract() of '" + text + "'", clauses, desk.contract());
        due("fault() of '" + text + "'", NONE, desk.fault());
    }

    private static void faulty(String text, int fault, int letter) {
        desk = new ContractDesk();
        Check.feed(desk, text);
        due("contract() of '" + text + "'", -10 - fault, desk.contract());
        due("fault() of '" + text + "'", letter, desk.fault());
    }

    private static void written(String want) {
        CHECK.same("what is written", want, Check.written(desk));
        due("told(13)", want.length(), desk.told(13));
    }

    private static void answerAll(int yes) {
        for (int q = 0; q < 6; q++) {
            desk.answer(q, (yes >> q & 1) == 1);
        }
    }

    public static void main(String[] args) {
        calls();
        numbersAndSets();
        refusals();
        refusedChangesNothing();
        questionsAndTerms();
        letters();
        wants();
        parts();
        figures();
        blanks();
        faultOne();
        faultTwo();
        faultThree();
        faultFour();
        faultFive();
        firstFault();
        emptyText();
        holds();
        inForce();
        called();
        suretyEdges();
        numberEdges();
        bare();
        doubled();
        idle();
        dangles();
        round();
        wrongTogether();
        writtenEdges();
        mattersEdges();
        settlesEdges();
        waysEdges();
        lots();
        undone();
        images();
        CHECK.end();
    }

    // ---- ahead of section 1

    private static void calls() {
        sentence("An object is used for at most 512 calls after it has been made");
        desk = new ContractDesk();
        for (int i = 1; i < 512; i++) {
            due("answer(), call " + i, i == 1 ? NONE : 1 - i % 2, desk.answer(0, i % 2 == 1));
        }
        due("answerOf(0), call 512", 1, desk.answerOf(0));
        desk = new ContractDesk();
        for (int round = 0; round < 2; round++) {
            for (int i = 0; i < 240; i++) {
                desk.feed("c()".charAt(i % 3));
            }
            due("contract() of 240 letters", -13, desk.contract());
        }
        for (int i = 483; i < 510; i++) {
            due("undo(), call " + i, NOT, desk.undo());
        }
        desk.feed(' ');
        due("contract(), call 511", 0, desk.contract());
        due("fault(), call 512", NONE, desk.fault());
    }

    private static void numbersAndSets() {
        sentence("What has a number has it from 0 on, as it comes");
        start("c(c())c(d5)");
        due("clause(0, 0)", NONE, desk.clause(0, 0));
        due("clause(1, 0)", 0, desk.clause(1, 0));
        due("clause(2, 0)", NONE, desk.clause(2, 0));
        due("part(2, 0, 1)", 5, desk.part(2, 0, 1));
        due("part(2, 1, 1)", NONE, desk.part(2, 1, 1));
        faulty("x", 1, 0);
        sentence("A SET is a whole number, bit k for k");
        start("c()".repeat(15) + "c(u7d7)");
        due("told(4), 16 clauses", 65535, desk.told(4));
        due("wrong(4), term 7", 128, desk.wrong(4));
        answerAll(63);
        due("told(3), six questions", 63, desk.told(3));
        desk.strike(15, true);
        due("told(8), clause 15", 32768, desk.told(8));
        due("told(4), all but 15", 32767, desk.told(4));
        sentence("NONE is -1");
        due("NONE", NONE, ContractDesk.NONE);
        sentence("They are far below all that is counted: -1000000001 and on");
        due("UNKNOWN", UNKNOWN, ContractDesk.UNKNOWN);
        due("OUTSIDE", OUTSIDE, ContractDesk.OUTSIDE);
        due("NOT", NOT, ContractDesk.NOT);
        due("FULL", FULL, ContractDesk.FULL);
    }

    private static void refusals() {
        sentence("REFUSALS, of several the first in this order: UNKNOWN, OUTSIDE");
        start("c()");
        due("clause(1, 10)", UNKNOWN, desk.clause(1, 10));
        due("clause(-1, -1)", UNKNOWN, desk.clause(-1, -1));
        due("part(1, -1, 0)", UNKNOWN, desk.part(1, -1, 0));
        due("part(1, 0, 2)", UNKNOWN, desk.part(1, 0, 2));
        due("number(1, -1)", UNKNOWN, desk.number(1, -1));
        due("hangs(1, 4)", UNKNOWN, desk.hangs(1, 4));
        due("hangs(-1, -1)", UNKNOWN, desk.hangs(-1, -1));
        due("term(8, 5)", UNKNOWN, desk.term(8, 5));
        due("term(-1, -1)", UNKNOWN, desk.term(-1, -1));
        sentence("REFUSALS: UNKNOWN ahead of NOT");
        due("strike(1, false), which would be so", UNKNOWN, desk.strike(1, false));
        due("strike(-1, false)", UNKNOWN, desk.strike(-1, false));
        due("forget(6), which has no answer", UNKNOWN, desk.forget(6));
        due("forget(-1)", UNKNOWN, desk.forget(-1));
        due("goBack(2), which was not kept", UNKNOWN, desk.goBack(2));
        due("goBack(-1)", UNKNOWN, desk.goBack(-1));
        sentence("REFUSALS: OUTSIDE ahead of FULL");
        desk = new ContractDesk();
        Check.feed(desk, " ".repeat(240));
        due("feed(256), full", OUTSIDE, desk.feed(256));
        due("feed(-1), full", OUTSIDE, desk.feed(-1));
        due("feed(0), full", FULL, desk.feed(0));
    }

    /** A desk in the midst of all: image 0 kept, a clause struck, answers, two to undo, a text begun. */
    private static ContractDesk busyDesk(String begun) {
        ContractDesk busy = Check.desk("c+0(d0r1)c-1*(u0)c(u1d1r0)");
        busy.answer(0, true);
        busy.keep(0);
        busy.answer(1, false);
        busy.strike(2, true);
        Check.feed(busy, begun);
        return busy;
    }

    private static void refused(String call, int want, String begun, ToIntFunction<ContractDesk> asked) {
        ContractDesk one = busyDesk(begun);
        ContractDesk twin = busyDesk(begun);
        due(call, want, asked.applyAsInt(one));
        CHECK.same("behind " + call + " all", Check.shown(twin), Check.shown(one));
        due("undo() behind " + call, twin.undo(), one.undo());
        CHECK.same("undone behind " + call + " all", Check.shown(twin), Check.shown(one));
        due("undo() again behind " + call, twin.undo(), one.undo());
        due("undo() at last behind " + call, NOT, one.undo());
        due("goBack(0) behind " + call, 1, one.goBack(0));
        twin.goBack(0);
        CHECK.same("gone back behind " + call + " all", Check.shown(twin), Check.shown(one));
        due("goBack(1) behind " + call, NOT, one.goBack(1));
        due("contract() behind " + call, twin.contract(), one.contract());
        due("fault() behind " + call, twin.fault(), one.fault());
    }

    private static void refusedChangesNothing() {
        sentence("What is refused changes nothing");
        String full = " ".repeat(237) + "c()";
        refused("feed(-1)", OUTSIDE, "c(", d -> d.feed(-1));
        refused("feed(256)", OUTSIDE, "c(", d -> d.feed(256));
        refused("feed('c')", FULL, full, d -> d.feed('c'));
        refused("answer(0, true)", NOT, "", d -> d.answer(0, true));
        refused("answer(1, false)", NOT, "", d -> d.answer(1, false));
        refused("answer(6, true)", UNKNOWN, "", d -> d.answer(6, true));
        refused("answer(-1, true)", UNKNOWN, "", d -> d.answer(-1, true));
        refused("answer(32, true)", UNKNOWN, "", d -> d.answer(32, true));
        refused("forget(2)", NOT, "", d -> d.forget(2));
        refused("forget(6)", UNKNOWN, "", d -> d.forget(6));
        refused("forget(32)", UNKNOWN, "", d -> d.forget(32));
        refused("strike(2, true)", NOT, "", d -> d.strike(2, true));
        refused("strike(0, false)", NOT, "", d -> d.strike(0, false));
        refused("strike(3, true)", UNKNOWN, "", d -> d.strike(3, true));
        refused("strike(-1, true)", UNKNOWN, "", d -> d.strike(-1, true));
        refused("strike(32, true)", UNKNOWN, "", d -> d.strike(32, true));
        refused("drift(0)", OUTSIDE, "", d -> d.drift(0));
        refused("drift(1000000)", OUTSIDE, "", d -> d.drift(1000000));
        refused("keep(2)", UNKNOWN, "", d -> d.keep(2));
        refused("keep(-1)", UNKNOWN, "", d -> d.keep(-1));
        refused("goBack(1)", NOT, "", d -> d.goBack(1));
        refused("goBack(2)", UNKNOWN, "", d -> d.goBack(2));
        refused("told(15)", OUTSIDE, "c", d -> d.told(15));
        refused("wrong(7)", OUTSIDE, "c", d -> d.wrong(7));
        refused("clause(3, 0)", UNKNOWN, "c", d -> d.clause(3, 0));
        refused("part(0, -1, 0)", OUTSIDE, "c", d -> d.part(0, -1, 0));
        refused("number(0, -1)", OUTSIDE, "c", d -> d.number(0, -1));
        refused("hangs(0, 4)", OUTSIDE, "c", d -> d.hangs(0, 4));
        refused("term(8, 0)", UNKNOWN, "c", d -> d.term(8, 0));
        refused("by(64, 0)", OUTSIDE, "c", d -> d.by(64, 0));
        refused("sign(-1)", OUTSIDE, "c", d -> d.sign(-1));
        refused("answerOf(6)", UNKNOWN, "c", d -> d.answerOf(6));
        ContractDesk fresh = new ContractDesk();
        String before = Check.shown(fresh);
        due("undo() of none", NOT, fresh.undo());
        CHECK.same("behind undo() of none all", before, Check.shown(fresh));
    }

    // ---- section 1

    private static void questionsAndTerms() {
        sentence("QUESTIONS 0 .. 5");
        desk = new ContractDesk();
        due("answer(0, true)", NONE, desk.answer(0, true));
        due("answer(5, true)", NONE, desk.answer(5, true));
        due("answer(-1, true)", UNKNOWN, desk.answer(-1, true));
        due("answer(6, true)", UNKNOWN, desk.answer(6, true));
        sentence("ANSWERS: NONE, 0 no, 1 yes; NONE at first");
        desk = new ContractDesk();
        for (int q = 0; q < 6; q++) {
            due("answerOf(" + q + ") at first", NONE, desk.answerOf(q));
            desk.answer(q, false);
            due("answerOf(" + q + ") by no", 0, desk.answerOf(q));
            desk.answer(q, true);
            due("answerOf(" + q + ") by yes", 1, desk.answerOf(q));
        }
        sentence("TERMS 0 .. 7");
        sound("c(d0d7)", 1);
        due("term(0, 0)", 1, desk.term(0, 0));
        due("term(7, 0)", 1, desk.term(7, 0));
        due("term(-1, 0)", UNKNOWN, desk.term(-1, 0));
        due("term(8, 0)", UNKNOWN, desk.term(8, 0));
    }

    private static void letters() {
        sentence("a text (240 letters at most)");
        desk = new ContractDesk();
        Check.feed(desk, " ".repeat(236));
        Check.feed(desk, "c()");
        due("feed(), the 240th", 240, desk.feed(' '));
        due("feed(), the 241st", FULL, desk.feed('x'));
        due("contract(), the 241st is not there", 1, desk.contract());
    }

    private static void wants() {
        sentence("'c' {'+' Q | '-' Q} ['*'] '(' parts ')'");
        sound("c()", 1);
        sound("c*()", 1);
        sound("c+5-4+3-2+1-0*()", 1);
        faulty("c*+0()", 1, 2);
        faulty("c**()", 1, 2);
        faulty("c+0*-1()", 1, 4);
        faulty("c(*)", 1, 2);
        sentence("it wants yes to each Q behind a '+', no to each behind a '-'");
        sound("c+5-4+3-2+1-0()c()", 2);
        due("clause(0, 3)", 42, desk.clause(0, 3));
        due("clause(0, 4)", 21, desk.clause(0, 4));
        due("clause(1, 3) of none", 0, desk.clause(1, 3));
        due("clause(1, 4) of none", 0, desk.clause(1, 4));
        sound("c+0+1+2+3+4+5()c-0-1-2-3-4-5()", 2);
        due("clause(0, 3) of all", 63, desk.clause(0, 3));
        due("clause(1, 4) of all", 63, desk.clause(1, 4));
        sentence("with a '*' it is CALLED");
        sound("c*()c()", 2);
        due("clause(0, 5)", 1, desk.clause(0, 5));
        due("clause(1, 5)", 0, desk.clause(1, 5));
    }

    private static void parts() {
        sentence("'r' C (refers to CLAUSE C, which may come behind)");
        sound("c(r15)" + "c()".repeat(15), 16);
        due("clause(15, 9)", 1, desk.clause(15, 9));
        sound("c(r1c(r0r1))", 2);
        due("clause(0, 9), from within", 2, desk.clause(0, 9));
        due("clause(1, 9), from around and itself", 3, desk.clause(1, 9));
        sentence("'d' T, 'u' T: the number of a TERM, of no CLAUSE");
        sound("c*()c(d0u0)", 2);
        due("clause(0, 9), a term 0 is no clause 0", 0, desk.clause(0, 9));
        due("told(4), nor does it call it", 2, desk.told(4));
        sentence("CLAUSES are numbered as they begin");
        sound("c(c(c())c())c()", 5);
        due("clause(2, 0)", 1, desk.clause(2, 0));
        due("clause(3, 0), told behind one within another", 0, desk.clause(3, 0));
        due("clause(4, 0)", NONE, desk.clause(4, 0));
        sentence("16 at most");
        sound("c()".repeat(16), 16);
        sound("c(".repeat(16) + ")".repeat(16), 16);
        due("clause(15, 1), the deepest", 15, desk.clause(15, 1));
        sentence("30 parts 'd', 'u', 'r' at most");
        sound("c(" + "d0u0r0".repeat(10) + ")", 1);
        due("told(1)", 30, desk.told(1));
        sound("c(" + "d0".repeat(30) + "c()".repeat(15) + ")", 16);
        due("told(1), clauses within are not counted", 30, desk.told(1));
    }

    private static void figures() {
        sentence("NUMBERS: Q, T one figure");
        faulty("c+00()", 1, 3);
        faulty("c-01()", 1, 3);
        faulty("c+10()", 1, 3);
        faulty("c(d00)", 1, 4);
        faulty("c(u01)", 1, 4);
        faulty("c(d000)", 1, 4);
        sentence("C one or two");
        sound("c(r0r00r01)c()", 2);
        due("part(0, 2, 1)", 1, desk.part(0, 2, 1));
        sound("c(r09r10)" + "c()".repeat(10), 11);
        due("part(0, 0, 1)", 9, desk.part(0, 0, 1));
        due("part(0, 1, 1)", 10, desk.part(0, 1, 1));
    }

    private static void blanks() {
        sentence("blanks (32) may stand anywhere");
        String tight = "c+0-5*(d7u0r1c(r0))";
        for (int at = 0; at <= tight.length(); at++) {
            sound(tight.substring(0, at) + " " + tight.substring(at), 2);
            due("told(1), a blank at " + at, 4, desk.told(1));
        }
        sound("  c  +  0  -  5  *  (  d  7  r  0  )  ", 1);
        sentence("blanks (32): nothing else is one");
        faulty("\tc()", 1, 0);
        faulty("c(\n)", 1, 2);
        faulty("c(d\u00a00)", 1, 3);
        faulty("c()\u0000", 1, 3);
        faulty("c()!", 1, 3);
        faulty("c()\u001f", 1, 3);
        sentence("blanks anywhere but within C");
        faulty("c(r1 0)" + "c()".repeat(10), 1, 5);
        faulty("c(r0 0)", 1, 5);
        faulty("c(r10 0)" + "c()".repeat(10), 1, 6);
        sound("c(r 10 )" + "c()".repeat(10), 11);
    }

    private static void faultOne() {
        sentence("FAULTS: 1 it cannot stand there");
        faulty("x", 1, 0);
        faulty("C()", 1, 0);
        faulty("(", 1, 0);
        faulty(")", 1, 0);
        faulty("c())", 1, 3);
        faulty("cc()", 1, 1);
        faulty("c0()", 1, 1);
        faulty("c+()", 1, 2);
        faulty("c++0()", 1, 2);
        faulty("c(())", 1, 2);
        faulty("c(+0)", 1, 2);
        faulty("c(0)", 1, 2);
        faulty("c(d)", 1, 3);
        faulty("c(u/)", 1, 3);
        faulty("c(u:)", 1, 3);
        faulty("c(r)", 1, 3);
        faulty("c(rr0)", 1, 3);
        faulty("c(rc())", 1, 3);
        faulty("c(r/)", 1, 3);
        faulty("c(r:)", 1, 3);
        faulty("c(r0/)", 1, 4);
        faulty("c(r0:)", 1, 4);
        faulty("c+/()", 1, 2);
        faulty("c+:()", 1, 2);
        faulty("\u00ff", 1, 0);
        sentence("1 'd', 'u', 'r' in no CLAUSE, too");
        faulty("d0", 1, 0);
        faulty("u0", 1, 0);
        faulty("r0", 1, 0);
        faulty("c()d0", 1, 3);
        faulty("c(c())u0", 1, 6);
        faulty("c() r0", 1, 4);
        sentence("1 the end in one, too");
        faulty("c(", 1, 2);
        faulty("c(c()", 1, 5);
        faulty("c(d0", 1, 4);
        faulty("c(r0", 1, 4);
        faulty("c(r10", 1, 5);
        sentence("1 the end where a word is begun");
        faulty("c", 1, 1);
        faulty("c+", 1, 2);
        faulty("c+0", 1, 3);
        faulty("c*", 1, 2);
        faulty("c(d", 1, 3);
        faulty("c(u", 1, 3);
        faulty("c(r", 1, 3);
    }

    private static void faultTwo() {
        sentence("2 a NUMBER out of its bounds");
        sound("c+5()", 1);
        faulty("c+6()", 2, 2);
        sound("c-5()", 1);
        faulty("c-6()", 2, 2);
        faulty("c+9()", 2, 2);
        sound("c(d7)", 1);
        faulty("c(d8)", 2, 3);
        sound("c(u7)", 1);
        faulty("c(u8)", 2, 3);
        faulty("c(u9)", 2, 3);
        sentence("2 (C 0 .. 15)");
        sound("c()".repeat(15) + "c(r0r15)", 16);
        faulty("c()".repeat(15) + "c(r16)", 2, 48);
        faulty("c(r99)", 2, 3);
        sentence("2 or of three figures");
        faulty("c(r000)", 2, 3);
        faulty("c(r015)", 2, 3);
        faulty("c(r100)", 2, 3);
        faulty("c(r999)", 2, 3);
        faulty("c(r0000)", 2, 3);
        faulty("c(r" + "9".repeat(237), 2, 3);
        faulty("c(r4294967296)", 2, 3);
    }

    private static void faultThree() {
        sentence("3 a 17th CLAUSE (at the word)");
        faulty("c()".repeat(17), 3, 48);
        faulty("c(".repeat(17) + ")".repeat(17), 3, 32);
        faulty("c()".repeat(16) + " c", 3, 49);
        faulty("c()".repeat(16) + "c+6x", 3, 48);
        faulty("c(" + "c()".repeat(15) + "c())", 3, 47);
        sentence("3 a 31st part (at the word)");
        faulty("c(" + "d0".repeat(31) + ")", 3, 62);
        faulty("c(" + "u0".repeat(30) + " u9)", 3, 63);
        faulty("c(" + "r0".repeat(30) + "rx)", 3, 62);
        faulty("c(" + "d0".repeat(15) + ")c(" + "u0".repeat(15) + "r1)", 3, 65);
    }

    private static void faultFour() {
        sentence("4 a Q told in this CLAUSE already (at it)");
        faulty("c+0+0()", 4, 4);
        faulty("c-0-0()", 4, 4);
        faulty("c+0-0()", 4, 4);
        faulty("c-5+5()", 4, 4);
        faulty("c+0-1+2-3+4-5- 0()", 4, 15);
        faulty("c+1()c+0+0", 4, 9);
        sentence("4 in this CLAUSE");
        sound("c+0(c+0(c-0()))c+0()", 4);
    }

    private static void faultFive() {
        sentence("Then, if nothing else is wrong: 5 a C that there is not");
        faulty("c(r1)", 5, 3);
        faulty("c(r15)" + "c()".repeat(14), 5, 3);
        faulty("c(r1d8)", 2, 5);
        faulty("c(r1)c+0-0()", 4, 9);
        faulty("c(r1)x", 1, 5);
        faulty("c(r1", 1, 4);
        faulty("c(r15" + "d0".repeat(30), 3, 63);
        sentence("5 (at the first such C)");
        faulty("c(r0r1r2)c(r3r2)", 5, 7);
        faulty("c( r 07 r8)", 5, 5);
    }

    private static void firstFault() {
        sentence("FAULTS, at the first letter that has one");
        faulty("c(d8)x", 2, 3);
        faulty("xc(d8)", 1, 0);
        faulty("c+0+0+6()", 4, 4);
        faulty("c(r16d8)", 2, 3);
        faulty("c()".repeat(16) + "xc()", 1, 48);
        sentence("(the end at the text's length)");
        faulty("c(   ", 1, 5);
        faulty("c   ", 1, 4);
        faulty("c" + " ".repeat(239), 1, 240);
        faulty(" ".repeat(239) + "c", 1, 240);
        faulty(" ".repeat(238) + "c(", 1, 240);
        sentence("of these the least");
        faulty("c()".repeat(15) + "cc", 1, 46);
        faulty("c(" + "d0".repeat(30) + ")d0", 1, 63);
        faulty("c()".repeat(15) + "c+c", 1, 47);
        faulty("c(" + "d0".repeat(30) + "x", 1, 62);
    }

    private static void emptyText() {
        sentence("An empty text (or one of blanks alone): no CLAUSES");
        sound("", 0);
        due("told(0) of an empty text", 0, desk.told(0));
        sound(" ", 0);
        sound(" ".repeat(240), 0);
        due("told(0) of blanks", 0, desk.told(0));
        start("c(d0)");
        due("contract() of an empty text, anew", 0, desk.contract());
        due("told(0), no clauses more", 0, desk.told(0));
        due("told(1), no parts more", 0, desk.told(1));
        due("told(4), none in force", 0, desk.told(4));
        due("told(13), nothing is written", 0, desk.told(13));
        due("clause(0, 0)", UNKNOWN, desk.clause(0, 0));
        due("term(0, 0)", 0, desk.term(0, 0));
    }

    // ---- section 2

    private static void holds() {
        sentence("a CLAUSE HOLDS, if all that it wants is so");
        start("c+0+1+2-3-4-5()c()");
        answerAll(7);
        due("clause(0, 7), all six are so", 1, desk.clause(0, 7));
        for (int q = 0; q < 6; q++) {
            desk.answer(q, q > 2);
            due("clause(0, 7), all but " + q, 0, desk.clause(0, 7));
            desk.undo();
        }
        due("clause(1, 7), it wants nothing", 1, desk.clause(1, 7));
        sentence("NOW: where there is no ANSWER, as if it were no");
        start("c-0()c+0()");
        due("told(4) without an answer", 1, desk.told(4));
        due("clause(0, 7) without an answer", 1, desk.clause(0, 7));
        due("clause(1, 7) without an answer", 0, desk.clause(1, 7));
        desk.answer(0, false);
        due("told(4) by no", 1, desk.told(4));
        desk.answer(0, true);
        due("told(4) by yes", 2, desk.told(4));
        desk.forget(0);
        due("told(4), forgotten", 1, desk.told(4));
    }

    private static void inForce() {
        sentence("IN FORCE, as few as can be");
        start("c*(r1)c*(r0)");
        due("told(4), two that call one another", 0, desk.told(4));
        start("c*(r1)c*(r2)c*(r0)c-0(r2)");
        due("told(4), called from without", 15, desk.told(4));
        desk.answer(0, true);
        due("told(4), called by one another alone", 0, desk.told(4));
        desk.answer(0, false);
        due("told(4), called from without anew", 15, desk.told(4));
        desk.strike(3, true);
        due("told(4), it that called them is struck", 0, desk.told(4));
        desk.undo();
        due("told(4), it is undone", 15, desk.told(4));
        Check.feed(desk, "c*(r1)c*(r0)");
        desk.contract();
        due("told(4), a contract anew", 0, desk.told(4));
        sentence("is not STRUCK (none at first)");
        start("c()c(c())");
        due("told(8) at first", 0, desk.told(8));
        due("told(4) at first", 7, desk.told(4));
        desk.strike(2, true);
        due("told(4), one within struck", 3, desk.told(4));
        desk.strike(1, true);
        desk.strike(0, true);
        due("told(4), all struck", 0, desk.told(4));
        due("told(8), all struck", 7, desk.told(8));
        sentence("whose CLAUSE around it is IN FORCE (if there is one)");
        start("c(".repeat(15) + "c+0(" + ")".repeat(16));
        due("told(4), the innermost wants yes", 32767, desk.told(4));
        desk.answer(0, true);
        due("told(4), 16 deep", 65535, desk.told(4));
        desk.strike(7, true);
        due("told(4), the eighth is struck", 127, desk.told(4));
        desk.strike(0, true);
        due("told(4), the outermost is struck", 0, desk.told(4));
    }

    private static void called() {
        sentence("if it is CALLED, to which one that is IN FORCE refers");
        start("c*()c+0(r0)");
        due("told(4), it that refers is not in force", 0, desk.told(4));
        desk.answer(0, true);
        due("told(4), it that refers is in force", 3, desk.told(4));
        desk.strike(1, true);
        due("told(4), it that refers is struck", 0, desk.told(4));
        start("c*()c()");
        due("told(4), none refers", 2, desk.told(4));
        start("c+0*()c(r0)");
        due("told(4), called, but it does not hold", 2, desk.told(4));
        start("c+0(c*())c(r1)");
        due("told(4), called, but not the one around", 4, desk.told(4));
        start("c(r1c*())");
        due("told(4), the one around refers", 3, desk.told(4));
        start("c+0(r1)c*()c+1(r1)");
        due("by(1, 0), one ahead refers", 3, desk.by(1, 0));
        due("by(2, 0), one behind refers", 6, desk.by(2, 0));
        due("by(3, 0), both refer", 7, desk.by(3, 0));
        due("by(0, 0), neither is in force", 0, desk.by(0, 0));
        sentence("(not itself)");
        start("c*(r0)");
        due("told(4), it refers to itself alone", 0, desk.told(4));
        start("c*(r0)c(r0)");
        due("told(4), to itself and another to it", 3, desk.told(4));
        start("c*(c(r0))");
        due("told(4), one within it alone", 0, desk.told(4));
    }

    private static void suretyEdges() {
        sentence("SURE of a CLAUSE: it is IN FORCE by all ANSWERS that there can be yet");
        start("c+0+1+2+3+4+5()c()");
        for (int q = 0; q < 5; q++) {
            desk.answer(q, true);
            due("told(5) with " + (q + 1), 2, desk.told(5));
        }
        desk.answer(5, true);
        due("told(5) with six", 3, desk.told(5));
        start("c+0(r2)c-0(r2)c*()");
        due("told(5), by yes and by no", 4, desk.told(5));
        sentence("NEVER: by none");
        start("c+0(c-0())c*()c()");
        due("told(6)", 6, desk.told(6));
        desk.strike(3, true);
        due("told(6) with a struck one", 14, desk.told(6));
        desk.answer(0, false);
        due("told(6) with an answer", 15, desk.told(6));
        sentence("else OPEN");
        start("c+0+1+2+3+4+5()c()c+0(c-0())");
        due("told(7)", 5, desk.told(7));
        due("told(5)", 2, desk.told(5));
        due("told(6)", 8, desk.told(6));
        answerAll(63);
        due("told(7) with full answers", 0, desk.told(7));
    }

    private static void numberEdges() {
        sentence("NUMBER: its place among those IN FORCE that are SUB-CLAUSES of the same one");
        start("c(c()c(c())c+0()c())");
        due("number(4, 1), not in force", NONE, desk.number(4, 1));
        due("number(5, 1), behind one that is not", 3, desk.number(5, 1));
        due("number(3, 2), deeper ones do not count", 1, desk.number(3, 2));
        desk.answer(0, true);
        due("number(5, 1) anew", 4, desk.number(5, 1));
        sentence("NUMBER (of those in none)");
        start("c(c())c-0()c()");
        due("number(3, 0)", 3, desk.number(3, 0));
        desk.answer(0, true);
        due("number(3, 0) anew", 2, desk.number(3, 0));
        sentence("NUMBER from 1 on");
        start("c()".repeat(16));
        for (int c = 0; c < 16; c++) {
            due("number(" + c + ", 0)", c + 1, desk.number(c, 0));
        }
        sentence("NUMBER behind the NUMBER of that one: 2, or 2 . 1, and so on");
        start("c()c(c()c(c()c()c()))");
        int[] number = {2, 2, 3, NONE};
        for (int k = 0; k < 4; k++) {
            due("number(6, " + k + ")", number[k], desk.number(6, k));
        }
    }

    private static void bare() {
        sentence("a use is BARE, if its TERM is defined in none of those ahead of it");
        start("c(u0)");
        due("wrong(0), nothing ahead", 1, desk.wrong(0));
        start("c(d0u0u0)");
        due("wrong(0), just ahead", 0, desk.wrong(0));
        start("c(u0d0u0)");
        due("wrong(0), just behind", 1, desk.wrong(0));
        start("c(d1u0)");
        due("wrong(0), another term", 1, desk.wrong(0));
        sentence("Among parts of CLAUSES IN FORCE NOW: a use");
        start("c+0(d0)c(u0)c+1(u1)");
        due("wrong(0), defined where it is not in force", 1, desk.wrong(0));
        desk.answer(0, true);
        due("wrong(0), defined where it is in force", 0, desk.wrong(0));
        desk.answer(1, true);
        due("wrong(0), used where it is in force", 1, desk.wrong(0));
        sentence("in the order in which they are told");
        start("c(c(d0)u0)");
        due("wrong(0), defined within, ahead", 0, desk.wrong(0));
        start("c(c(u0)d0)");
        due("wrong(0), used within, ahead", 1, desk.wrong(0));
    }

    private static void doubled() {
        sentence("a definition is DOUBLED, if it is defined in one ahead");
        start("c(d0)");
        due("wrong(1), once", 0, desk.wrong(1));
        start("c(d0d0)");
        due("wrong(1), twice", 1, desk.wrong(1));
        start("c(d0d0d0)");
        due("wrong(1), thrice", 2, desk.wrong(1));
        start("c(d0d1u0d2)");
        due("wrong(1), each once", 0, desk.wrong(1));
        start("c(" + "d7".repeat(30) + ")");
        due("wrong(1), thirty times", 29, desk.wrong(1));
        sentence("Among parts of CLAUSES IN FORCE NOW: a definition");
        start("c+0(d0)c(d0)c+1(d0)");
        due("wrong(1), the others are not in force", 0, desk.wrong(1));
        desk.answer(1, true);
        due("wrong(1), two in force", 1, desk.wrong(1));
        desk.answer(0, true);
        due("wrong(1), three in force", 2, desk.wrong(1));
    }

    private static void idle() {
        sentence("a TERM is IDLE, if it is defined and never used");
        start("c(u1)");
        due("wrong(2), used and never defined", 0, desk.wrong(2));
        start("c(d0d0)");
        due("wrong(2), a term once, however often defined", 1, desk.wrong(2));
        start("c(u0d0)");
        due("wrong(2), used ahead", 0, desk.wrong(2));
        start("c(d0d1d2d3d4d5d6d7)");
        due("wrong(2), all eight", 8, desk.wrong(2));
        sentence("Among parts of CLAUSES IN FORCE NOW: a TERM");
        start("c(d0)c+0(u0)c+1(d1)");
        due("wrong(2), used where it is not in force", 1, desk.wrong(2));
        desk.answer(0, true);
        due("wrong(2), used where it is in force", 0, desk.wrong(2));
        desk.answer(1, true);
        due("wrong(2), defined where it is in force", 1, desk.wrong(2));
    }

    private static void dangles() {
        sentence("a reference DANGLES, if its CLAUSE is not IN FORCE");
        start("c(r1r1)c+0()");
        due("wrong(3), each of them", 2, desk.wrong(3));
        desk.answer(0, true);
        due("wrong(3), in force", 0, desk.wrong(3));
        desk.strike(1, true);
        due("wrong(3), struck", 2, desk.wrong(3));
        start("c(r0)");
        due("wrong(3), to itself", 0, desk.wrong(3));
        sentence("Among parts of CLAUSES IN FORCE NOW: a reference");
        desk.strike(0, true);
        due("wrong(3), itself not in force", 0, desk.wrong(3));
        start("c+0(r1)c+1()");
        due("wrong(3), neither in force", 0, desk.wrong(3));
        desk.answer(0, true);
        due("wrong(3), it that refers alone", 1, desk.wrong(3));
    }

    private static void round() {
        sentence("A TERM hangs on one (perhaps itself)");
        start("c(d0u0)");
        due("term(0, 4)", 1, desk.term(0, 4));
        due("wrong(4)", 1, desk.wrong(4));
        sentence("if a CLAUSE that defines the first uses the second (itself, not in SUB-CLAUSES)");
        start("c(d0c(u1d2))");
        due("term(0, 4), used within", 0, desk.term(0, 4));
        due("term(2, 4), used and defined within", 2, desk.term(2, 4));
        start("c(u1c(d0))");
        due("term(0, 4), used around", 0, desk.term(0, 4));
        start("c(u1d0u2)c(d0u7)");
        due("term(0, 4), ahead, behind, elsewhere", 134, desk.term(0, 4));
        start("c(d0u1)c+0(d0u1)");
        due("term(0, 4), in the first of two alone", 2, desk.term(0, 4));
        desk.answer(0, true);
        desk.strike(0, true);
        due("term(0, 4), in the second of two alone", 2, desk.term(0, 4));
        sentence("it is ROUND, if it comes to itself so");
        for (int t = 0; t < 8; t++) {
            start("c(d" + t + "u" + t + ")");
            due("wrong(4) of " + t, 1 << t, desk.wrong(4));
            desk.strike(0, true);
            due("wrong(4) of " + t + ", no more", 0, desk.wrong(4));
        }
        start("c(d0u1)c(d1u2)c(d2u1)");
        due("wrong(4), 0 comes to a round, not to itself", 6, desk.wrong(4));
        start("c(d0u1)c(d1u2)c(d2u3)c(d3u4)c(d4u5)c(d5u6)c(d6u7)c(d7u0)");
        due("wrong(4), over all eight", 255, desk.wrong(4));
        desk.strike(4, true);
        due("wrong(4), the round is broken", 0, desk.wrong(4));
        sentence("it is ROUND, if it comes to itself so, by one of all answers alone");
        String[] halves = {"c-0-1-2-3-4-5(d0u1)c(d1u0)", "c+0+1+2+3+4+5(d0u1)c(d1u0)"};
        for (int i = 0; i < 2; i++) {
            start(halves[i]);
            for (int answers = 0; answers < 64; answers++) {
                // One use is bare by either; both terms are round where the first clause is in force.
                due("by(" + answers + ", 1) of '" + halves[i] + "'", answers == 63 * i ? 3 : 1, desk.by(answers, 1));
            }
        }
        sentence("Among parts of CLAUSES IN FORCE NOW: ROUND");
        start("c+0(d0u0)c(d1u2)c+0(d2u1)");
        due("wrong(4), not in force", 0, desk.wrong(4));
        desk.answer(0, true);
        due("wrong(4), in force", 7, desk.wrong(4));
    }

    private static void wrongTogether() {
        sentence("WRONG: BARE, DOUBLED ones and those that DANGLE, and ROUND TERMS, together");
        start("c(u0)");
        due("told(9), bare", 1, desk.told(9));
        start("c(d0d0)");
        due("told(9), doubled", 1, desk.told(9));
        start("c(r1)c+0()");
        due("told(9), dangling", 1, desk.told(9));
        start("c(d0u0)");
        due("told(9), round", 1, desk.told(9));
        start("c(d0)");
        due("told(9), idle is not wrong", 0, desk.told(9));
        start("c(u0u0d0d0d0r1r1r1r1)c+0()c(d1u2)c(d2u1)");
        due("told(9): 3 bare, 2 doubled, 4 dangling, 3 round", 12, desk.told(9));
        due("wrong(0)", 3, desk.wrong(0));
        start("c(" + "u7".repeat(29) + "d7)");
        due("told(9), 29 bare, 1 round", 30, desk.told(9));
    }

    // ---- section 3

    private static void writtenEdges() {
        sentence("WRITTEN: of CLAUSES IN FORCE NOW, in order");
        start("c+0(d0)c(d1)c+0(d2)");
        written("1 B;");
        desk.answer(0, true);
        written("1 A;2 B;3 C;");
        desk.strike(1, true);
        written("1 A;2 C;");
        desk.answer(0, false);
        written("");
        sentence("its NUMBER in figures, '.' between them, then ' '");
        start("c()".repeat(8) + "c(c(c()))c(c(c()))");
        written("1 ;2 ;3 ;4 ;5 ;6 ;7 ;8 ;9 ;9.1 ;9.1.1 ;10 ;10.1 ;10.1.1 ;");
        start("c(" + "c()".repeat(15) + ")");
        written("1 ;1.1 ;1.2 ;1.3 ;1.4 ;1.5 ;1.6 ;1.7 ;1.8 ;1.9 ;1.10 ;1.11 ;1.12 ;1.13 ;1.14 ;1.15 ;");
        start("c()".repeat(16));
        due("told(13), 16 at last", 9 * 3 + 7 * 4, desk.told(13));
        sentence("'d' T as the letter 65 and T, 'u' T as the letter 97 and T");
        start("c(d0d7u0u7)");
        int[] signs = {'1', ' ', 65, 72, 97, 104, ';'};
        for (int i = 0; i < signs.length; i++) {
            due("sign(" + i + ")", signs[i], desk.sign(i));
        }
        sentence("'r' C as '[', the NUMBER of C ('?', if it DANGLES), ']'");
        start("c(r0r1r2)c+0()c(c(r3)r3)");
        written("1 [1][?][2];2 [2.1];2.1 [2.1];");
        desk.answer(0, true);
        written("1 [1][2][3];2 ;3 [3.1];3.1 [3.1];");
        start("c()".repeat(10) + "c(r9r10)");
        due("told(13), a number of two figures", 9 * 3 + 4 + 12, desk.told(13));
        sentence("SUB-CLAUSES have no sign there (they come behind all its parts, in order)");
        start("c(d0c(d1c(d2)d3)d4c(d5)d6)c(d7)");
        written("1 AEG;1.1 BD;1.1.1 C;1.2 F;2 H;");
        sentence("then ';'");
        start("c()");
        written("1 ;");
    }

    private static void mattersEdges() {
        sentence("MATTERS: QUESTIONS without ANSWER");
        start("c+0+1+2+3+4+5()");
        due("told(10), all six", 63, desk.told(10));
        for (int q = 0; q < 6; q++) {
            desk.answer(q, true);
            due("told(10) with " + (q + 1), 62 << q & 63, desk.told(10));
        }
        start("c-5()");
        due("told(10), the last alone", 32, desk.told(10));
        desk.answer(5, false);
        due("told(10), answered", 0, desk.told(10));
        sentence("for which there are ANSWERS of the others without one");
        start("c+0(c+1())");
        due("told(10)", 3, desk.told(10));
        desk.answer(0, false);
        due("told(10), 1 matters no more", 0, desk.told(10));
        desk.answer(0, true);
        due("told(10), 1 matters", 2, desk.told(10));
        sentence("what is IN FORCE is not the same by yes and by no");
        start("c+0()c-0()");
        due("told(10), one for the other", 1, desk.told(10));
        start("c+0(c-0(c+1()))");
        due("told(10), in one that is never", 1, desk.told(10));
        sentence("for a CLAUSE: whether that one is");
        start("c+0(r2)c-0(r2)c*()");
        due("hangs(0, 0)", 1, desk.hangs(0, 0));
        due("hangs(2, 0), sure either way", 0, desk.hangs(2, 0));
        due("told(10)", 1, desk.told(10));
    }

    /** Clause 14 is in force, if yes is said to an odd number of the questions 0 .. 4. */
    private static final String ODD_OF_FIVE = "c+0+1(r4)c-0-1(r4)c+0-1(r9)c-0+1(r9)"
        + "c*(c+2-3-4(r14)c-2+3-4(r14)c-2-3+4(r14)c+2+3+4(r14))"
        + "c*(c-2-3-4(r14)c+2+3-4(r14)c+2-3+4(r14)c-2+3+4(r14))c*()";

    private static void settlesEdges() {
        sentence("SETTLES of a CLAUSE: the fewest ANSWERS to QUESTIONS without one, by which it would be SURE or NEVER");
        start("c+0+1+2+3+4+5()");
        due("hangs(0, 1), one no is enough", 1, desk.hangs(0, 1));
        start("c-0-1-2-3-4-5()");
        due("hangs(0, 1), one yes is enough", 1, desk.hangs(0, 1));
        start("c+0+1+2+3+4+5()");
        for (int q = 0; q < 5; q++) {
            desk.answer(q, true);
        }
        due("hangs(0, 1), the last", 1, desk.hangs(0, 1));
        start(ODD_OF_FIVE);
        due("told(0), the odd of five", 15, desk.told(0));
        due("hangs(14, 0)", 31, desk.hangs(14, 0));
        due("hangs(14, 2)", 32, desk.hangs(14, 2));
        for (int q = 0; q < 5; q++) {
            due("hangs(14, 1) with " + q, 5 - q, desk.hangs(14, 1));
            desk.answer(q, q % 2 == 0);
        }
        due("hangs(14, 1) with five", 0, desk.hangs(14, 1));
        due("hangs(14, 3) with five", 2, desk.hangs(14, 3));
        start("c+0+1(r2)c-0-1(r2)c*()");
        due("hangs(2, 1), by never as by sure", 2, desk.hangs(2, 1));
        sentence("SETTLES: ANSWERS to QUESTIONS without one: those that there are stay");
        start("c-0+1()");
        desk.answer(0, false);
        due("hangs(0, 1), yes to 0 is no way", 1, desk.hangs(0, 1));
        start("c+0-1()");
        desk.answer(0, true);
        due("hangs(0, 1), no to 0 is no way", 1, desk.hangs(0, 1));
        sentence("SETTLES (0, if it is)");
        start("c()c+0(c-0())c+1()");
        due("hangs(0, 1), sure", 0, desk.hangs(0, 1));
        due("hangs(2, 1), never", 0, desk.hangs(2, 1));
        due("hangs(3, 1), open", 1, desk.hangs(3, 1));
        answerAll(0);
        due("hangs(3, 1), all are answered", 0, desk.hangs(3, 1));
    }

    private static void waysEdges() {
        sentence("WAYS: of all ANSWERS that there can be yet, by how many nothing is WRONG");
        start("c(d0)");
        due("told(11), all", 64, desk.told(11));
        for (int q = 0; q < 6; q++) {
            desk.answer(q, q % 2 == 0);
            due("told(11) with " + (q + 1), 32 >> q, desk.told(11));
        }
        start("c(u0)");
        due("told(11), none", 0, desk.told(11));
        start("c-0(u0)c-1(d1d1)c-2(r4)c-3(d2u2)c+4()");
        due("told(11), each kind of wrong is ruled out, or 4 said yes to", 4 + 2, desk.told(11));
        for (int t = 0; t < 8; t++) {
            start("c-0(d" + t + "u" + t + ")");
            due("told(11), " + t + " is round by no to 0", 32, desk.told(11));
        }
        start("c(" + "r0".repeat(30) + ")");
        due("told(11), thirty parts and nothing wrong", 64, desk.told(11));
        sentence("the FIRST of them: bit Q for yes to Q; the least");
        start("c()");
        due("told(12), nothing is wrong", 0, desk.told(12));
        start("c-0(u0)c-1(u0)c-2(u0)c-3(u0)c-4(u0)c-5(u0)");
        due("told(12), the last alone", 63, desk.told(12));
        due("told(11), one", 1, desk.told(11));
        start("c-5(u0)c+0(u0)");
        due("told(12), of sixteen the least", 32, desk.told(12));
        desk.answer(1, true);
        due("told(12), of those that there can be yet", 34, desk.told(12));
        sentence("FIRST; NONE");
        desk.answer(5, false);
        due("told(12), none", NONE, desk.told(12));
        sentence("BRINGS: by how many a CLAUSE is IN FORCE");
        start("c()c+0+1+2+3+4+5()c+0(c-0())c+5()");
        int[] brings = {64, 1, 32, 0, 32};
        for (int c = 0; c < 5; c++) {
            due("hangs(" + c + ", 2)", brings[c], desk.hangs(c, 2));
        }
        desk.answer(5, true);
        due("hangs(4, 2), of those that there can be yet", 32, desk.hangs(4, 2));
        due("hangs(0, 2), of those that there can be yet", 32, desk.hangs(0, 2));
        desk.answer(5, false);
        due("hangs(4, 2), of none", 0, desk.hangs(4, 2));
        answerAll(63);
        due("hangs(0, 2), of one", 1, desk.hangs(0, 2));
    }

    private static void lots() {
        sentence("BY LOTS: X becomes what is left of (X times 16807) by 2147483647, without a wrap-around");
        // X is 16807, 282475249, 1622650073, 984943658, 1144108930, 470211272.
        int[] ofOne = {1, 1, NONE, NONE, 1, NONE};
        // X is 1774597664, 1410049312, 1216742139, 1445843439, 1513213468, 2077408902.
        int[] ofTheLast = {NONE, 1, 0, 0, 1, 0};
        desk = new ContractDesk();
        due("drift(1)", 0, desk.drift(1));
        for (int q = 0; q < 6; q++) {
            due("answerOf(" + q + ") of 1", ofOne[q], desk.answerOf(q));
        }
        due("drift(999999)", 0, desk.drift(999999));
        for (int q = 0; q < 6; q++) {
            due("answerOf(" + q + ") of 999999", ofTheLast[q], desk.answerOf(q));
        }
        sentence("X left over by 3: 0 no, 1 yes, 2 NONE: what was answered is gone");
        desk = new ContractDesk();
        answerAll(63);
        desk.drift(1);
        for (int q = 0; q < 6; q++) {
            due("answerOf(" + q + ") of 1, all answered ahead", ofOne[q], desk.answerOf(q));
        }
    }

    private static void undone() {
        sentence("UNDONE: the latest of answer(), forget(), strike(), drift() that was not refused");
        start("c()");
        desk.answer(0, true);
        desk.forget(0);
        desk.strike(0, true);
        desk.drift(1);
        desk.strike(0, true);
        desk.forget(2);
        due("undo(), the drift", 3, desk.undo());
        due("told(3)", 0, desk.told(3));
        due("undo(), the strike", 2, desk.undo());
        due("told(8)", 0, desk.told(8));
        due("undo(), the forgetting", 1, desk.undo());
        due("answerOf(0)", 1, desk.answerOf(0));
        due("undo(), the answer", 0, desk.undo());
        due("answerOf(0) at last", NONE, desk.answerOf(0));
        sentence("UNDONE: what changes nothing, but was not refused");
        desk.drift(1);
        due("drift(1) again", 1, desk.drift(1));
        due("told(14)", 2, desk.told(14));
        sentence("(8 at most are kept, the oldest are lost)");
        desk = new ContractDesk();
        for (int i = 0; i < 9; i++) {
            due("told(14) with " + i, Math.min(i, 8), desk.told(14));
            desk.answer(i % 6, i < 6);
        }
        due("told(14) with nine", 8, desk.told(14));
        for (int left = 7; left >= 0; left--) {
            due("undo() to " + left, left, desk.undo());
        }
        due("undo() of the ninth", NOT, desk.undo());
        due("told(3), the first stays", 1, desk.told(3));
    }

    private static void images() {
        sentence("IMAGES 0, 1 keep ANSWERS and what is STRUCK");
        start("c()".repeat(16));
        answerAll(42);
        for (int c = 0; c < 16; c++) {
            desk.strike(c, true);
        }
        desk.keep(1);
        for (int q = 0; q < 6; q++) {
            desk.forget(q);
        }
        for (int c = 0; c < 16; c++) {
            desk.strike(c, false);
        }
        desk.keep(0);
        due("goBack(1)", 1, desk.goBack(1));
        due("told(8), all are struck", 65535, desk.told(8));
        due("told(3), all are answered", 63, desk.told(3));
        for (int q = 0; q < 6; q++) {
            due("answerOf(" + q + ")", q % 2, desk.answerOf(q));
        }
        due("goBack(0)", 1, desk.goBack(0));
        due("told(8), none is struck", 0, desk.told(8));
        due("told(3), none is answered", 0, desk.told(3));
        sentence("IMAGES 0, 1: there is no other");
        due("keep(-1)", UNKNOWN, desk.keep(-1));
        due("keep(2)", UNKNOWN, desk.keep(2));
        due("keep(LOWEST)", UNKNOWN, desk.keep(LOWEST));
        due("goBack(HIGHEST)", UNKNOWN, desk.goBack(HIGHEST));
    }
}
