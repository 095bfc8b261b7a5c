/** Every short text, behind beginnings that lead to each place of the grammar and to its bounds, read as the Model reads it. */
public final class TextsTest {
    private static final Check CHECK = new Check("TextsTest");
    private static final String LETTERS = "c+-*()dur 0169";

    public static void main(String[] args) {
        for (String begun : new String[] {"", "c", "c+0", "c(", "c(d0", "c(r", "c(r1", "c(c("}) {
            everyText(begun, "", 4);
            everyText(begun, ")", 3);
        }
        for (String begun : new String[] {"c()".repeat(15), "c()".repeat(16), "c(".repeat(15), "c(".repeat(16),
                "c(" + "d0".repeat(29), "c(" + "u0".repeat(30), "c+0-1+2-3+4", " ".repeat(237)}) {
            everyText(begun, "", 3);
            everyText(begun, ")", 2);
        }
        CHECK.end();
    }

    private static void everyText(String begun, String end, int letters) {
        readAlike(begun + end);
        for (int i = 0; letters > 0 && i < LETTERS.length(); i++) {
            everyText(begun + LETTERS.charAt(i), end, letters - 1);
        }
    }

    private static void readAlike(String text) {
        ContractDesk desk = new ContractDesk();
        Model model = new Model();
        for (int i = 0; i < text.length(); i++) {
            desk.feed(text.charAt(i));
            model.feed(text.charAt(i));
        }
        String of = " of '" + text + "'";
        CHECK.due("contract()" + of, model.contract(), desk.contract());
        CHECK.due("fault()" + of, model.fault(), desk.fault());
        CHECK.due("told(0)" + of, model.told(0), desk.told(0));
        CHECK.due("told(1)" + of, model.told(1), desk.told(1));
        CHECK.due("told(2)" + of, model.told(2), desk.told(2));
    }
}
