/** What is due, and how a test ends when something was not so. */
final class Due {
    private static int wrong = 0;
    private static int asked = 0;
    private static String about = "";

    private Due() {
    }

    /** What the answers from here on stand for: it is told before each one that is wrong. */
    static void about(String what) {
        about = what;
    }

    static void due(String what, long got, long want) {
        asked++;
        if (got != want) {
            wrong++;
            System.out.println(about + what + " answered " + got + ", due is " + want);
        }
    }

    static void that(boolean holds, String what) {
        asked++;
        if (!holds) {
            wrong++;
            System.out.println(about + "not so: " + what);
        }
    }

    static int wrong() {
        return wrong;
    }

    static int asked() {
        return asked;
    }

    static void end() {
        System.out.println(wrong == 0 ? "all is as due" : wrong + " are not as due");
        if (wrong != 0) {
            System.exit(1);
        }
    }
}
