import java.util.ArrayList;
import java.util.HashMap;
import java.util.List;
import java.util.Map;

/**
 * Long runs of calls against a second, differently built account of the
 * document: it keeps the total of every path in a map as the samples come.
 */
public final class ModelTest {
    private static final int RUNS = 4000;
    private static final int CALLS = 512;

    private static final Answers answers = new Answers();

    // A fixed row of numbers, so that every run of the test is the same.
    private static long seed = 20261115L;

    private static int pick(int bound) {
        seed = seed * 6364136223846793005L + 1442695040888963407L;
        return (int) ((seed >>> 33) % bound);
    }

    private static final class Model {
        private final List<Integer> stack = new ArrayList<>();
        private final Map<List<Integer>, Integer> totals = new HashMap<>();
        private final Map<List<Integer>, Integer> owns = new HashMap<>();
        private int taken = 0;

        int call(int f) {
            if (f < 0 || f > 7 || stack.size() == 8) return -1;
            stack.add(f);
            return stack.size();
        }

        int leave() {
            return stack.isEmpty() ? -1 : stack.remove(stack.size() - 1);
        }

        int sample(int weight) {
            if (weight < 1 || weight > 100 || taken == 40) return -1;
            for (int n = 0; n <= stack.size(); n++) {
                totals.merge(List.copyOf(stack.subList(0, n)), weight, Integer::sum);
            }
            owns.merge(List.copyOf(stack), weight, Integer::sum);
            return ++taken;
        }

        int total() {
            return totals.getOrDefault(stack, 0);
        }

        int own() {
            return owns.getOrDefault(stack, 0);
        }

        int hottest() {
            int best = -1;
            int most = 0;
            for (int f = 7; f >= 0; f--) {
                List<Integer> next = new ArrayList<>(stack);
                next.add(f);
                int sum = totals.getOrDefault(next, 0);
                if (sum > 0 && sum >= most) {
                    best = f;
                    most = sum;
                }
            }
            return best;
        }

        int inclusive(int f) {
            if (f < 0 || f > 7) return -1;
            int sum = 0;
            for (Map.Entry<List<Integer>, Integer> e : owns.entrySet()) {
                if (e.getKey().contains(f)) sum += e.getValue();
            }
            return sum;
        }

        int exclusive(int f) {
            if (f < 0 || f > 7) return -1;
            int sum = 0;
            for (Map.Entry<List<Integer>, Integer> e : owns.entrySet()) {
                int size = e.getKey().size();
                if (size > 0 && e.getKey().get(size - 1) == f) sum += e.getValue();
            }
            return sum;
        }

        int edge(int caller, int callee) {
            if (caller < 0 || caller > 7 || callee < 0 || callee > 7) return -1;
            int sum = 0;
            for (Map.Entry<List<Integer>, Integer> e : owns.entrySet()) {
                StringBuilder row = new StringBuilder();
                for (int f : e.getKey()) row.append(f);
                if (row.indexOf("" + caller + callee) >= 0) sum += e.getValue();
            }
            return sum;
        }

        int paths(int weight) {
            return (int) totals.entrySet().stream()
                    .filter(e -> !e.getKey().isEmpty() && e.getValue() >= Math.max(1, weight))
                    .count();
        }

        int deepest(int weight) {
            return totals.entrySet().stream()
                    .filter(e -> e.getValue() >= Math.max(1, weight))
                    .mapToInt(e -> e.getKey().size()).max().orElse(0);
        }
    }

    /** Mostly in range and, with few functions in use, often on a path again. */
    private static int function(int inUse) {
        return pick(25) == 0 ? pick(20) - 6 : pick(inUse);
    }

    private static int threshold() {
        return pick(2) == 0 ? pick(60) - 5 : pick(1500);
    }

    private static void step(String at, FlameTree x, Model m, int inUse, int climb) {
        int f = function(inUse);
        int g = function(inUse);
        int w = pick(12) == 0 ? pick(110) - 4 : 1 + pick(100);
        int t = threshold();
        int kind = pick(20);
        if (kind < climb) answers.due(at + "call " + f, x.call(f), m.call(f));
        else if (kind < 9) answers.due(at + "leave", x.leave(), m.leave());
        else if (kind < 11) answers.due(at + "sample " + w, x.sample(w), m.sample(w));
        else if (kind == 11) answers.due(at + "total", x.total(), m.total());
        else if (kind == 12) answers.due(at + "own", x.own(), m.own());
        else if (kind < 15) answers.due(at + "hottest", x.hottest(), m.hottest());
        else if (kind == 15) answers.due(at + "inclusive " + f, x.inclusive(f), m.inclusive(f));
        else if (kind == 16) answers.due(at + "exclusive " + f, x.exclusive(f), m.exclusive(f));
        else if (kind == 17) answers.due(at + "edge " + f + " " + g, x.edge(f, g), m.edge(f, g));
        else if (kind == 18) answers.due(at + "paths " + t, x.paths(t), m.paths(t));
        else answers.due(at + "deepest " + t, x.deepest(t), m.deepest(t));
    }

    public static void main(String[] args) {
        for (int run = 0; run < RUNS && !answers.anyWrong(); run++) {
            FlameTree x = new FlameTree();
            Model m = new Model();
            int inUse = 1 + pick(8);
            int climb = 4 + pick(4);
            for (int c = 1; c <= CALLS; c++) {
                step("run " + run + ", call " + c + ": ", x, m, inUse, climb);
            }
        }
        answers.end();
    }
}
