/** Counts the answers that are not as due, prints each, and ends the test with 1 if there was one. */
final class Check {
    private int wrong = 0;
    private int looked = 0;

    void due(String call, long got, long want) {
        looked++;
        if (got != want) {
            wrong++;
            System.out.println(call + " answered " + got + ", due is " + want);
        }
    }

    void holds(String what, boolean is) {
        looked++;
        if (!is) {
            wrong++;
            System.out.println("not so: " + what);
        }
    }

    boolean isClean() {
        return wrong == 0;
    }

    void end() {
        System.out.println(looked + " looked at, " + wrong + " wrong");
        if (wrong != 0 || looked == 0) {
            System.exit(1);
        }
    }
}
