/** Counts the answers that are not as due, and ends the test with code 1 if there were any. */
final class Check {
    private int calls = 0;
    private int wrong = 0;

    void due(String call, long got, long want) {
        calls++;
        if (got != want) {
            fault(call + " answered " + got + ", due is " + want);
        }
    }

    void due(String call, String got, String want) {
        calls++;
        if (!got.equals(want)) {
            fault(call + " answered [" + got + "], due is [" + want + "]");
        }
    }

    void fault(String text) {
        wrong++;
        System.out.println(text);
    }

    void end() {
        if (calls == 0) {
            fault("nothing was tested");
        }
        if (wrong != 0) {
            System.out.println(wrong + " answers are not as due");
            System.exit(1);
        }
    }
}
