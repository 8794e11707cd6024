/** A store and a Model that get the same calls: each answer of the store must be the Model's. */
final class Twins {
    private static final int MOST_CALLS = 512;

    private final TierStore store;
    private final Model model;
    private final StringBuilder told;
    private int calls = 0;
    private String fault = null;

    Twins(int room, int length) {
        store = new TierStore(room, length);
        model = new Model(room, length);
        told = new StringBuilder("new TierStore(" + room + ", " + length + ")");
    }

    Model model() {
        return model;
    }

    int callsLeft() {
        return MOST_CALLS - calls;
    }

    /** What went wrong first, with all the calls up to there; null if nothing did. */
    String fault() {
        return fault;
    }

    /** Answers what the Model did. */
    long make(Step step) {
        long want = step.onModel().applyAsLong(model);
        calls++;
        if (fault != null) {
            return want;
        }
        told.append(' ').append(step.name());
        if (calls > MOST_CALLS) {
            fault = "more than " + MOST_CALLS + " calls were made";
            return want;
        }
        long got = step.onStore().applyAsLong(store);
        if (got != want) {
            fault = told + " answered " + got + ", due is " + want;
        }
        return want;
    }

    void askAll() {
        for (Step question : Step.QUESTIONS) {
            make(question);
        }
    }

    void readAll() {
        for (Step read : Step.READS) {
            make(read);
        }
    }
}
