/** Counts and prints the answers that are not the ones that are due. */
final class Due {
    private static int wrong = 0;
    private static String shown = "";

    private Due() {
    }

    /** Names the promise, and the words of the document, that the answers from here on show. */
    static void shows(String promise, String words) {
        shown = promise + ", \"" + words + "\": ";
    }

    /** The same, with what of those words it is about. */
    static void shows(String promise, String words, String remark) {
        shown = promise + ", \"" + words + "\" (" + remark + "): ";
    }

    static void is(String call, long got, long want) {
        if (got != want) {
            tell(call + " answered " + got + ", due is " + want);
        }
    }

    static void is(String call, boolean got, boolean want) {
        is(call, got ? 1 : 0, want ? 1 : 0);
    }

    static void tell(String fault) {
        wrong++;
        System.out.println(shown + fault);
    }

    static void end() {
        if (wrong != 0) {
            System.out.println(wrong + " answers are not as due");
            System.exit(1);
        }
    }
}
