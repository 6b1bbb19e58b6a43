/** Compares answers with those that are due, prints the wrong ones and counts them. */
final class Due {
    private static final int MOST_PRINTED = 40;
    private int wrong = 0;
    private int asked = 0;
    private String topic = "";

    void topic(String name) {
        topic = name;
    }

    int asked() {
        return asked;
    }

    void is(String call, long got, long want) {
        asked++;
        if (got == want) {
            return;
        }
        wrong++;
        if (wrong <= MOST_PRINTED) {
            System.out.println(topic + ": " + call + " answered " + got + ", due is " + want);
        }
    }

    void isTrue(String what, boolean holds) {
        is(what, holds ? 1 : 0, 1);
    }

    /** Ends the test's run: with exit code 1 if an answer was wrong, or if none was asked for. */
    void end() {
        System.out.println(asked + " answers, " + wrong + " not as due");
        if (wrong != 0 || asked == 0) {
            System.exit(1);
        }
    }
}
