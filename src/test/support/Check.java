/** What tests of the document's sentences share: each wrong answer is told with the sentence that it breaks. */
abstract class Check {
    static final int NONE = -1;
    private static String sentence = "";
    private static int asked = 0;
    private static int wrong = 0;

    /** The words of the document that the answers from here on are about. */
    static void sentence(String words) {
        sentence = words;
    }

    static void due(String what, int want, int got) {
        due(what, String.valueOf(want), String.valueOf(got));
    }

    static void due(String what, boolean want, boolean got) {
        due(what, String.valueOf(want), String.valueOf(got));
    }

    static void due(String what, String want, String got) {
        asked++;
        if (!want.equals(got)) {
            wrong++;
            System.out.println("\"" + sentence + "\": " + what + " answered " + got + ", due is " + want);
        }
    }

    static void end() {
        System.out.println(asked + " answers, " + wrong + " not as due");
        if (wrong != 0) {
            System.exit(1);
        }
    }
}
