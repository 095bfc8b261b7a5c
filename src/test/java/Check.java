/** What the tests share: answers held against what is due, texts fed letter by letter. */
final class Check {
    private static final int SHOWN = 20;

    private final String name;
    private int checked;
    private int wrong;

    Check(String name) {
        this.name = name;
    }

    void due(String call, long want, long got) {
        checked++;
        if (want != got) {
            wrong++;
            if (wrong <= SHOWN) {
                System.out.println(name + ": " + call + " answered " + got + ", due is " + want);
            }
        }
    }

    void holds(String what, boolean is) {
        due(what, 1, is ? 1 : 0);
    }

    boolean isClean() {
        return wrong == 0;
    }

    /** Ends the test, with exit code 1 if an answer was not as due. */
    void end() {
        System.out.println(name + ": " + checked + " answers, " + wrong + " not as due");
        if (wrong != 0 || checked == 0) {
            System.exit(1);
        }
    }

    static void feed(ContractDesk desk, String text) {
        for (int i = 0; i < text.length(); i++) {
            desk.feed(text.charAt(i));
        }
    }

    static ContractDesk desk(String text) {
        ContractDesk desk = new ContractDesk();
        feed(desk, text);
        desk.contract();
        return desk;
    }

    static String written(ContractDesk desk) {
        StringBuilder signs = new StringBuilder();
        for (int i = 0; i < 4096 && desk.sign(i) != ContractDesk.NONE; i++) {
            signs.append((char) desk.sign(i));
        }
        return signs.toString();
    }
}
