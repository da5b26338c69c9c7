/** Counts the answers of a test that are not the ones that are due. */
final class Due {
    private static int wrong = 0;
    private static String sentence = "";

    private Due() {
    }

    /** What the document says, word by word: all that follows is due by it, till the next one. */
    static void by(String quoted) {
        sentence = quoted;
    }

    static void is(String what, long got, long want) {
        if (got != want) {
            wrong++;
            System.out.println(what + " answered " + got + ", due is " + want + bySentence());
        }
    }

    static void holds(String what, boolean is) {
        if (!is) {
            wrong++;
            System.out.println("does not hold: " + what + bySentence());
        }
    }

    private static String bySentence() {
        return sentence.isEmpty() ? "" : " by \"" + sentence + "\"";
    }

    static int wrong() {
        return wrong;
    }

    static void end(String test) {
        if (wrong != 0) {
            System.out.println(test + ": " + wrong + " not as due");
            System.exit(1);
        }
        System.out.println(test + ": all as due");
    }
}
