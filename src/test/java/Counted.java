/** A FlameTree that stops a test which asks more of it than the document promises. */
final class Counted {
    static final int MOST_CALLS = 512;

    private final FlameTree tree = new FlameTree();
    private int calls = 0;

    int calls() {
        return calls;
    }

    private FlameTree next() {
        calls++;
        if (calls > MOST_CALLS) {
            throw new IllegalStateException("a test makes more than 512 calls on one object");
        }
        return tree;
    }

    int call(int function) {
        return next().call(function);
    }

    int leave() {
        return next().leave();
    }

    int sample(int weight) {
        return next().sample(weight);
    }

    int total() {
        return next().total();
    }

    int own() {
        return next().own();
    }

    int hottest() {
        return next().hottest();
    }

    int inclusive(int function) {
        return next().inclusive(function);
    }

    int exclusive(int function) {
        return next().exclusive(function);
    }

    int edge(int caller, int callee) {
        return next().edge(caller, callee);
    }

    int paths(int weight) {
        return next().paths(weight);
    }

    int deepest(int weight) {
        return next().deepest(weight);
    }

    /** Empties the stack and puts the functions on it. */
    void stand(int... functions) {
        for (int i = 0; i < 9 && leave() != -1; i++) { }
        for (int f : functions) call(f);
    }

    void sampleAt(int weight, int... functions) {
        stand(functions);
        sample(weight);
    }
}
