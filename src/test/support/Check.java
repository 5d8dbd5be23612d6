/** Counts the answers that are not as due; each test ends with its verdict. */
final class Check {
    private static final int MOST_PRINTED = 40;
    private static int wrong = 0;
    private static String where = "";

    private Check() {
    }

    /** Names the place in the document, and its words there, that the checks from here on belong to. */
    static void sentence(String place, String... words) {
        where = place + ", \"" + String.join("\", \"", words) + "\": ";
    }

    static void due(String what, Object got, Object want) {
        if (got.equals(want)) {
            return;
        }
        wrong++;
        if (wrong <= MOST_PRINTED) {
            System.out.println(where + what + " answered " + got + ", due is " + want);
        }
    }

    static void end() {
        System.out.println(wrong == 0 ? "all answers are as due" : wrong + " answers are not as due");
        if (wrong != 0) {
            System.exit(1);
        }
    }
}
