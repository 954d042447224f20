/** Compares answers with those that are due, and ends a test. */
final class Check {
    private static int wrong = 0;
    private static int compared = 0;
    private static String place = "";

    private Check() {
    }

    /** What is compared from here on tests these words, which must stand in that section of the document. */
    static void sentence(String section, String words) {
        place = "";
        holds("the document says in " + section + ": " + words, Doc.section(section).contains(words));
        place = section + ", \"" + words + "\": ";
    }

    /** Where what is compared from here on stands, told with each answer that is not as due. */
    static void in(String where) {
        place = where + ": ";
    }

    static void due(String call, long got, long want) {
        compared++;
        if (got != want) {
            wrong++;
            if (wrong <= 50) {
                System.out.println(place + call + " answered " + got + ", due is " + want);
            }
        }
    }

    static void due(String call, boolean got, boolean want) {
        due(call, got ? 1 : 0, want ? 1 : 0);
    }

    static void holds(String what, boolean is) {
        due(what, is, true);
    }

    static void end() {
        System.out.println(compared + " answers, " + wrong + " not as due");
        if (wrong != 0) {
            System.exit(1);
        }
    }
}
