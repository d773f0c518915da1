/** Counts the calls of one test, and prints those whose answer is not the one that is due. */
final class Due {
    private int calls = 0;
    private int wrong = 0;

    void is(String call, long got, long want) {
        calls++;
        if (got != want) {
            wrong++;
            System.out.println(call + " answered " + got + ", due is " + want);
        }
    }

    void isTrue(String what, boolean holds) {
        is(what, holds ? 1 : 0, 1);
    }

    int wrong() {
        return wrong;
    }

    void end() {
        if (wrong != 0) {
            System.out.println(wrong + " of " + calls + " answers are not as due");
            System.exit(1);
        }
        System.out.println(calls + " answers are as due");
    }
}
