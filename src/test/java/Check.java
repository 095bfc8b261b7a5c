import java.util.StringJoiner;

/** What the tests share: answers held against what is due, texts fed letter by letter. */
final class Check {
    private static final int SHOWN = 20;

    private final String name;
    private String sentence = "";
    private int sentences;
    private int inSentence = 1;
    private int checked;
    private int wrong;

    Check(String name) {
        this.name = name;
    }

    /** What follows is the test of these words of the document. */
    void sentence(String words) {
        endSentence();
        sentence = words;
        sentences++;
        inSentence = 0;
    }

    private void endSentence() {
        if (inSentence == 0) {
            wrong++;
            System.out.println(name + ": nothing is tested of \"" + sentence + "\"");
        }
    }

    void due(String call, long want, long got) {
        checked++;
        inSentence++;
        if (want != got) {
            wrong++;
            if (wrong <= SHOWN) {
                String of = sentence.isEmpty() ? "" : " [" + sentence + "]";
                System.out.println(name + ":" + of + " " + call + " answered " + got + ", due is " + want);
            }
        }
    }

    void holds(String what, boolean is) {
        due(what, 1, is ? 1 : 0);
    }

    void same(String what, String want, String got) {
        holds(what + " is '" + got + "', due is '" + want + "':", want.equals(got));
    }

    boolean isClean() {
        return wrong == 0;
    }

    /** Ends the test, with exit code 1 if an answer was not as due. */
    void end() {
        endSentence();
        String of = sentences == 0 ? "" : " of " + sentences + " sentences";
        System.out.println(name + ": " + checked + " answers" + of + ", " + wrong + " not as due");
        if (wrong != 0 || checked == 0) {
            System.exit(1);
        }
    }

    static void feed(ContractDesk desk, String text) {
        for (int i = 0; i < text.length(); i++) {
            desk.feed(text.charAt(i));
        }
    }

    static ContractDesk desk(String text) {
        ContractDesk desk = new ContractDesk();
        feed(desk, text);
        desk.contract();
        return desk;
    }

    static String written(ContractDesk desk) {
        StringBuilder signs = new StringBuilder();
        for (int i = 0; i < 4096 && desk.sign(i) != ContractDesk.NONE; i++) {
            signs.append((char) desk.sign(i));
        }
        return signs.toString();
    }

    /** What the calls that change nothing tell of a desk, in one line. */
    static String shown(ContractDesk desk) {
        StringJoiner all = new StringJoiner(" ");
        for (int what = 0; what <= 14; what++) {
            all.add("told" + what + "=" + desk.told(what));
        }
        for (int what = 0; what <= 6; what++) {
            all.add("wrong" + what + "=" + desk.wrong(what));
        }
        for (int q = 0; q < 6; q++) {
            all.add("answer" + q + "=" + desk.answerOf(q));
        }
        for (int c = 0; c < desk.told(0); c++) {
            all.add("clause" + c + "=" + desk.clause(c, 0) + "," + desk.clause(c, 3) + "," + desk.clause(c, 5));
        }
        return all.add("fault=" + desk.fault()).add(written(desk)).toString();
    }
}
