/** Counts the answers that are not as due, prints each, and ends a test with exit code 1 if there was one. */
final class Due {
    private final String test;
    private String topic = "";
    private int asked;
    private int wrong;

    Due(String test) {
        this.test = test;
    }

    /** What the answers that follow are about. */
    void about(String topic) {
        this.topic = topic;
    }

    void is(String call, long got, long want) {
        asked++;
        if (got != want) {
            wrong++;
            if (wrong <= 40) {
                System.out.println(test + ", " + topic + ": " + call + " answered " + got + ", due is " + want);
            }
        }
    }

    void is(String call, boolean got, boolean want) {
        is(call, got ? 1 : 0, want ? 1 : 0);
    }

    void end() {
        System.out.println(test + ": " + asked + " answers, " + wrong + " not as due");
        if (wrong != 0) {
            System.exit(1);
        }
    }
}
