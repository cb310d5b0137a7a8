/** Counts the answers that are not as due, and ends the test with exit code 1 if there was one. */
final class Due {
    private int wrong = 0;
    private int looked = 0;

    void is(String call, long got, long want) {
        looked++;
        if (got != want) {
            wrong++;
            System.out.println(call + " answered " + got + ", due is " + want);
        }
    }

    int wrongSoFar() {
        return wrong;
    }

    void end() {
        System.out.println(looked + " answers, " + wrong + " not as due");
        if (wrong != 0 || looked == 0) {
            System.exit(1);
        }
    }
}
