/** Counts and prints the answers that are not as due. */
final class Check {
    private static String sentence = "";
    private static int calls = 0;
    private static int wrong = 0;

    private Check() {
    }

    /** Names the document's sentence that the next answers are about. */
    static void about(String words) {
        sentence = words + ": ";
    }

    static void due(String call, int got, int want) {
        calls++;
        if (got != want) {
            wrong++;
            System.out.println(sentence + call + " answered " + got + ", due is " + want);
        }
    }

    /** Types a text in place of the present one. */
    static void text(ChipPilers x, String text) {
        x.clearText();
        for (int index = 0; index < text.length(); index++) {
            due("type of " + text + " at " + index, x.type(text.charAt(index)), index + 1);
        }
    }

    static int runText(ChipPilers x, String text) {
        text(x, text);
        return x.run();
    }

    static void end() {
        System.out.println(wrong == 0 ? calls + " answers are as due" : wrong + " answers are not as due");
        if (wrong != 0) {
            System.exit(1);
        }
    }
}
