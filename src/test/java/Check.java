/** Counts what is not as due and tells it; a test ends with finish. */
final class Check {
    private static int checks = 0;
    private static int wrong = 0;

    private Check() {
    }

    static void equal(String what, Object due, Object got) {
        checks++;
        if (!due.equals(got)) {
            wrong++;
            System.out.println(what + ": " + got + ", due is " + due);
        }
    }

    static void finish() {
        System.out.println(checks + " checks, " + wrong + " wrong");
        if (wrong != 0) {
            System.exit(1);
        }
    }
}
