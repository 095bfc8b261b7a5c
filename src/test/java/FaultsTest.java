/** The text of a contract: what may stand where, and the first fault (promises 2, 3, 4). */
public final class FaultsTest {
    private static final Check CHECK = new Check("FaultsTest");

    private static void sound(String text, int clauses) {
        ContractDesk desk = new ContractDesk();
        Check.feed(desk, text);
        CHECK.due("contract() of '" + text + "'", clauses, desk.contract());
        CHECK.due("fault() of '" + text + "'", ContractDesk.NONE, desk.fault());
        CHECK.due("told(0) of '" + text + "'", clauses, desk.told(0));
    }

    private static void faulty(String text, int fault, int letter) {
        ContractDesk desk = new ContractDesk();
        Check.feed(desk, text);
        CHECK.due("contract() of '" + text + "'", -10 - fault, desk.contract());
        CHECK.due("fault() of '" + text + "'", letter, desk.fault());
        CHECK.due("told(0) of '" + text + "'", 0, desk.told(0));
        CHECK.due("told(2) of '" + text + "'", 0, desk.told(2));
    }

    public static void main(String[] args) {
        soundTexts();
        misplaced();
        outOfBounds();
        tooMany();
        toldAlready();
        noSuchClause();
        firstOfSeveral();
        longestTexts();
        CHECK.end();
    }

    private static void soundTexts() {
        sound("", 0);
        sound("   ", 0);
        sound("c()", 1);
        sound("c()c()", 2);
        sound("c(c(c()))c()", 4);
        sound(" c + 0 - 5 * ( d 7 u 0 r 1 c ( ) ) ", 2);
        sound("c+0-1+2-3+4-5*()", 1);
        sound("c(r0)", 1);
        sound("c(r00)", 1);
        sound("c(r01c())", 2);
        sound("c(r1r01r 1 )c()", 2);
        sound("c(r0u0)", 1);
        sound("c(r15)" + "c()".repeat(15), 16);
        sound("c()".repeat(16), 16);
        sound("c(".repeat(16) + ")".repeat(16), 16);
        sound("c(" + "d0".repeat(30) + ")", 1);
        sound("c(" + "r0".repeat(15) + "c(" + "u1".repeat(15) + "))", 2);
        sound("c*()", 1);
        sound("c+0(c+0(c-0()))", 3);
    }

    private static void misplaced() {
        faulty("x", 1, 0);
        faulty("C()", 1, 0);
        faulty("\t", 1, 0);
        faulty("\u0000", 1, 0);
        faulty("\u00ff", 1, 0);
        faulty("  x", 1, 2);
        faulty("d0", 1, 0);
        faulty("u0", 1, 0);
        faulty("r0", 1, 0);
        faulty("c()d0", 1, 3);
        faulty(")", 1, 0);
        faulty("(", 1, 0);
        faulty("+0", 1, 0);
        faulty("0", 1, 0);
        faulty("c())", 1, 3);
        faulty("c", 1, 1);
        faulty("c ", 1, 2);
        faulty("c(", 1, 2);
        faulty("c( ", 1, 3);
        faulty("c+", 1, 2);
        faulty("c+0", 1, 3);
        faulty("c*", 1, 2);
        faulty("c(d", 1, 3);
        faulty("c(r", 1, 3);
        faulty("c(r0", 1, 4);
        faulty("c(r12", 1, 5);
        faulty("c(c()", 1, 5);
        faulty("cc()", 1, 1);
        faulty("c+()", 1, 2);
        faulty("c+-0()", 1, 2);
        faulty("c+c()", 1, 2);
        faulty("c**()", 1, 2);
        faulty("c*+0()", 1, 2);
        faulty("c)", 1, 1);
        faulty("cd0()", 1, 1);
        faulty("c0()", 1, 1);
        faulty("c+00()", 1, 3);
        faulty("c+0 1()", 1, 4);
        faulty("c(d00)", 1, 4);
        faulty("c(d000)", 1, 4);
        faulty("c(u0 0)", 1, 5);
        faulty("c(u)", 1, 3);
        faulty("c(r)", 1, 3);
        faulty("c(r-1)", 1, 3);
        faulty("c(rr0)", 1, 3);
        faulty("c(r0 0)", 1, 5);
        faulty("c(r1 5)", 1, 5);
        faulty("c(r10 0)", 1, 6);
        faulty("c(+0)", 1, 2);
        faulty("c(*)", 1, 2);
        faulty("c(()", 1, 2);
        faulty("c(7)", 1, 2);
        faulty("c(d/)", 1, 3);
        faulty("c(d:)", 1, 3);
    }

    private static void outOfBounds() {
        faulty("c+6()", 2, 2);
        faulty("c-9()", 2, 2);
        faulty("c+ 6()", 2, 3);
        faulty("c+5-6()", 2, 4);
        faulty("c+66()", 2, 2);
        faulty("c(d8)", 2, 3);
        faulty("c(u9)", 2, 3);
        faulty("c(d80)", 2, 3);
        faulty("c(r16)", 2, 3);
        faulty("c(r 99)", 2, 4);
        faulty("c(r000)", 2, 3);
        faulty("c(r001)", 2, 3);
        faulty("c(r0000000000000)", 2, 3);
        faulty("c(r99999999999999)", 2, 3);
        faulty("c(r16", 2, 3);
        faulty("c(r100", 2, 3);
    }

    private static void tooMany() {
        faulty("c()".repeat(16) + "c()", 3, 48);
        faulty("c()".repeat(16) + "  c", 3, 50);
        faulty("c(".repeat(17), 3, 32);
        faulty("c(" + "d0".repeat(31) + ")", 3, 62);
        faulty("c(" + "d0".repeat(10) + "u0".repeat(10) + "r0".repeat(10) + " u", 3, 63);
        faulty("c(" + "d0".repeat(15) + "c(" + "r0".repeat(15) + ")r16)", 3, 65);
    }

    private static void toldAlready() {
        faulty("c+0+0()", 4, 4);
        faulty("c-0-0()", 4, 4);
        faulty("c+0-0()", 4, 4);
        faulty("c+0-1+2-3+4-5+ 3()", 4, 15);
        faulty("c+0(c+1-1())", 4, 8);
    }

    private static void noSuchClause() {
        faulty("c(r1)", 5, 3);
        faulty("c(r 15 )", 5, 4);
        faulty("c(r0r2)c(r3)", 5, 5);
        faulty("c(r0c(r02))", 5, 7);
    }

    private static void firstOfSeveral() {
        faulty("c(r1)x", 1, 5);
        faulty("c(r1d8)", 2, 5);
        faulty("c(r1)c+0+0()", 4, 9);
        faulty("c(r9d9)x", 2, 5);
        faulty("xc(r9d9)", 1, 0);
        faulty("c()".repeat(16) + "d0", 1, 48);
        faulty("c(" + "d0".repeat(30) + ")d0", 1, 63);
        faulty("c()".repeat(15) + "cc()", 1, 46);
        faulty("c+0+6()", 2, 4);
        faulty("c+0+()", 1, 4);
        faulty("c+0+0+6()", 4, 4);
        faulty("c(r16d8)", 2, 3);
    }

    /** 240 letters, so that the end of the text is the end of the room for it. */
    private static void longestTexts() {
        String blanks = " ".repeat(240);
        sound(blanks, 0);
        sound("c()" + blanks.substring(3), 1);
        sound(blanks.substring(3) + "c()", 1);
        sound("c()".repeat(15) + blanks.substring(108) + "c(" + "d0".repeat(30) + ")", 16);
        faulty(blanks.substring(1) + "c", 1, 240);
        faulty(blanks.substring(2) + "c+", 1, 240);
        faulty(blanks.substring(2) + "c*", 1, 240);
        faulty(blanks.substring(2) + "c(", 1, 240);
        faulty(blanks.substring(3) + "c(d", 1, 240);
        faulty(blanks.substring(3) + "c(r", 1, 240);
        faulty(blanks.substring(4) + "c(r0", 1, 240);
        faulty(blanks.substring(6) + "c(r100", 2, 237);
        faulty("c(" + blanks.substring(2), 1, 240);
        faulty("c(" + ")".repeat(238), 1, 3);
        faulty("c".repeat(240), 1, 1);
    }
}
