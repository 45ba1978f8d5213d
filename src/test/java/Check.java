/** Counts wrong answers and prints them; every test of the project ends with finish(). */
final class Check {
    private int wrong = 0;
    private long asked = 0;

    void due(String call, String got, String want) {
        asked++;
        if (!got.equals(want)) {
            wrong++;
            if (wrong <= 40) {
                System.out.println(call + " answered " + got + ", due is " + want);
            }
        }
    }

    void due(String call, long got, long want) {
        due(call, "" + got, "" + want);
    }

    void due(String call, boolean got, boolean want) {
        due(call, "" + got, "" + want);
    }

    int wrong() {
        return wrong;
    }

    void finish() {
        System.out.println(asked + " answers, " + wrong + " of them not as due");
        if (wrong != 0 || asked == 0) {
            System.exit(1);
        }
    }
}
