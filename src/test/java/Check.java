/** Counts the answers that are not the ones that are due, and prints each. */
final class Check {
    private String topic = "";
    private int asked = 0;
    private int wrong = 0;

    void topic(String name) {
        topic = name;
    }

    void due(String call, long got, long want) {
        asked++;
        if (got != want) {
            wrong++;
            System.out.println(topic + ": " + call + " answered " + got + ", due is " + want);
        }
    }

    /** A limit of the test itself: it is told when it is broken, and counts as no answer otherwise. */
    void atMost(String what, long got, long most) {
        if (got > most) {
            wrong++;
            System.out.println(topic + ": " + what + " are " + got + ", at most " + most + " may be");
        }
    }

    void holds(String claim, boolean truth) {
        due(claim, truth ? 1 : 0, 1);
    }

    void end() {
        System.out.println(asked + " answers, " + wrong + " of them not as due");
        if (wrong != 0) {
            System.exit(1);
        }
    }
}
