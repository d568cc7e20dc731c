/** Samples of what was running, and the tree of calls that they draw. */
public final class FlameTree {
    private static final int FUNCTIONS = 8;
    private static final int MAX_DEPTH = 8;
    private static final int MAX_SAMPLES = 40;
    private static final int MAX_WEIGHT = 100;
    private static final int ALL_COPIES = MAX_SAMPLES * MAX_DEPTH;
    private static final int REFUSED = -1;
    private static final int NONE = -1;

    private final int[] stack = new int[MAX_DEPTH];
    private int depth;

    // One row for all samples, since arrays have one dimension here:
    // the copy of sample s starts at s * MAX_DEPTH and is lengths[s] long.
    private final int[] copies = new int[ALL_COPIES];
    private final int[] lengths = new int[MAX_SAMPLES];
    private final int[] weights = new int[MAX_SAMPLES];
    private int samples;

    public FlameTree() {
        depth = 0;
        samples = 0;
    }

    public int call(int function) {
        if (!isFunction(function) || depth >= MAX_DEPTH) {
            return REFUSED;
        }
        stack[depth] = function;
        depth++;
        return depth;
    }

    public int leave() {
        if (depth <= 0) {
            return NONE;
        }
        depth--;
        return stack[depth];
    }

    public int sample(int weight) {
        if (weight < 1 || weight > MAX_WEIGHT || samples >= MAX_SAMPLES) {
            return REFUSED;
        }
        int start = samples * MAX_DEPTH;
        for (int i = 0; i < depth; i++) {
            copies[start + i] = stack[i];
        }
        lengths[samples] = depth;
        weights[samples] = weight;
        samples++;
        return samples;
    }

    // An empty stack needs no case of its own, here and in own():
    // every copy begins with no functions at all.
    public int total() {
        int sum = 0;
        for (int s = 0; s < samples; s++) {
            if (beginsWithStack(s)) {
                sum += weights[s];
            }
        }
        return sum;
    }

    public int own() {
        int sum = 0;
        for (int s = 0; s < samples; s++) {
            if (lengths[s] == depth && beginsWithStack(s)) {
                sum += weights[s];
            }
        }
        return sum;
    }

    public int hottest() {
        int best = NONE;
        int bestTotal = 0;
        for (int f = 0; f < FUNCTIONS; f++) {
            int sum = totalWithNext(f);
            // Strictly above: the least function wins among equals,
            // and a path outside the tree, with total 0, never does.
            if (sum > bestTotal) {
                best = f;
                bestTotal = sum;
            }
        }
        return best;
    }

    public int inclusive(int function) {
        if (!isFunction(function)) {
            return REFUSED;
        }
        int sum = 0;
        for (int s = 0; s < samples; s++) {
            if (holdsFunction(s, function)) {
                sum += weights[s];
            }
        }
        return sum;
    }

    public int exclusive(int function) {
        if (!isFunction(function)) {
            return REFUSED;
        }
        int sum = 0;
        for (int s = 0; s < samples; s++) {
            if (endsWithFunction(s, function)) {
                sum += weights[s];
            }
        }
        return sum;
    }

    public int edge(int caller, int callee) {
        if (!isFunction(caller) || !isFunction(callee)) {
            return REFUSED;
        }
        int sum = 0;
        for (int s = 0; s < samples; s++) {
            if (holdsEdge(s, caller, callee)) {
                sum += weights[s];
            }
        }
        return sum;
    }

    public int paths(int weight) {
        int least = atLeastOne(weight);
        int count = 0;
        for (int s = 0; s < samples; s++) {
            for (int n = 1; n <= lengths[s]; n++) {
                if (isFirstWithBeginning(s, n) && totalOfBeginning(s, n) >= least) {
                    count++;
                }
            }
        }
        return count;
    }

    public int deepest(int weight) {
        int least = atLeastOne(weight);
        int longest = 0;
        for (int s = 0; s < samples; s++) {
            for (int n = longest + 1; n <= lengths[s]; n++) {
                if (totalOfBeginning(s, n) >= least) {
                    longest = n;
                }
            }
        }
        return longest;
    }

    private static boolean isFunction(int function) {
        return function >= 0 && function < FUNCTIONS;
    }

    private static int atLeastOne(int weight) {
        return weight < 1 ? 1 : weight;
    }

    private boolean beginsWithStack(int s) {
        if (lengths[s] < depth) {
            return false;
        }
        int start = s * MAX_DEPTH;
        for (int i = 0; i < depth; i++) {
            if (copies[start + i] != stack[i]) {
                return false;
            }
        }
        return true;
    }

    // A full stack gives 0 for every function: no copy is longer than it.
    private int totalWithNext(int function) {
        int sum = 0;
        for (int s = 0; s < samples; s++) {
            if (lengths[s] > depth
                    && copies[s * MAX_DEPTH + depth] == function
                    && beginsWithStack(s)) {
                sum += weights[s];
            }
        }
        return sum;
    }

    private boolean holdsFunction(int s, int function) {
        int start = s * MAX_DEPTH;
        for (int i = 0; i < lengths[s]; i++) {
            if (copies[start + i] == function) {
                return true;
            }
        }
        return false;
    }

    private boolean endsWithFunction(int s, int function) {
        int length = lengths[s];
        return length > 0 && copies[s * MAX_DEPTH + length - 1] == function;
    }

    private boolean holdsEdge(int s, int caller, int callee) {
        int start = s * MAX_DEPTH;
        for (int i = 1; i < lengths[s]; i++) {
            if (copies[start + i - 1] == caller && copies[start + i] == callee) {
                return true;
            }
        }
        return false;
    }

    // Several samples can go over one path; it is counted at the first of them.
    private boolean isFirstWithBeginning(int s, int n) {
        for (int earlier = 0; earlier < s; earlier++) {
            if (shareBeginning(earlier, s, n)) {
                return false;
            }
        }
        return true;
    }

    private int totalOfBeginning(int s, int n) {
        int sum = 0;
        for (int other = 0; other < samples; other++) {
            if (shareBeginning(other, s, n)) {
                sum += weights[other];
            }
        }
        return sum;
    }

    private boolean shareBeginning(int a, int b, int n) {
        if (lengths[a] < n || lengths[b] < n) {
            return false;
        }
        int startA = a * MAX_DEPTH;
        int startB = b * MAX_DEPTH;
        for (int i = 0; i < n; i++) {
            if (copies[startA + i] != copies[startB + i]) {
                return false;
            }
        }
        return true;
    }
}
