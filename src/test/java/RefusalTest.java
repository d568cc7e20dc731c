import java.util.ArrayList;
import java.util.LinkedHashMap;
import java.util.List;
import java.util.Map;
import java.util.function.Supplier;
import java.util.function.ToIntFunction;

/**
 * "the call answers -1 and changes nothing": in every boundary state each call
 * that is refused there, once and many times over, and then all that can be
 * asked, against an object of the same state without the refused calls.
 */
public final class RefusalTest {
    private static final int[] NO_FUNCTIONS = {-1, 8, Integer.MIN_VALUE, Integer.MAX_VALUE};
    private static final int[] NO_WEIGHTS = {0, 101, -1, Integer.MIN_VALUE, Integer.MAX_VALUE};

    private static final Answers answers = new Answers();

    public static void main(String[] args) {
        for (int depth : new int[] {0, 1, 7, 8}) {
            for (int samples : new int[] {0, 1, 39, 40}) {
                refusedIn(depth, samples);
            }
        }
        answers.end();
    }

    private static void refusedIn(int depth, int samples) {
        Supplier<Counted> state = () -> stateOf(depth, samples);
        List<Integer> untouched = picture(state.get());
        String where = " with " + depth + " on the stack and " + samples + " samples";

        refusals(depth, samples).forEach((name, refused) -> {
            for (int times : new int[] {1, 50}) {
                Counted x = state.get();
                for (int i = 0; i < times; i++) {
                    answers.due(name + where, refused.applyAsInt(x), -1);
                }
                answers.dueTrue(name + where + " changes nothing, " + times + " times",
                        picture(x).equals(untouched));
            }
        });
    }

    /** Samples at many stacks, the last ones near the stack that is left. */
    private static Counted stateOf(int depth, int samples) {
        Counted x = new Counted();
        for (int i = 0; i < samples; i++) {
            x.call(i * 3 % 8);
            x.sample(1 + i * 2);
            if (i % 3 == 2) {
                x.leave();
                x.leave();
            }
        }
        x.stand();
        for (int i = 0; i < depth; i++) x.call(i * 3 % 8);
        return x;
    }

    private static Map<String, ToIntFunction<Counted>> refusals(int depth, int samples) {
        Map<String, ToIntFunction<Counted>> all = new LinkedHashMap<>();
        for (int f : NO_FUNCTIONS) {
            all.put("call " + f, x -> x.call(f));
            all.put("inclusive " + f, x -> x.inclusive(f));
            all.put("exclusive " + f, x -> x.exclusive(f));
            all.put("edge " + f + " 3", x -> x.edge(f, 3));
            all.put("edge 0 " + f, x -> x.edge(0, f));
            all.put("edge " + f + " " + f, x -> x.edge(f, f));
        }
        for (int w : NO_WEIGHTS) all.put("sample " + w, x -> x.sample(w));
        if (depth == 0) all.put("leave", Counted::leave);
        if (depth == 8) {
            all.put("call 0", x -> x.call(0));
            all.put("call 7", x -> x.call(7));
            all.put("hottest", Counted::hottest);
        }
        if (samples == 40) {
            all.put("sample 1", x -> x.sample(1));
            all.put("sample 100", x -> x.sample(100));
        }
        return all;
    }

    /** All that can be asked of the state; the object is used up by it. */
    private static List<Integer> picture(Counted x) {
        List<Integer> seen = new ArrayList<>();
        for (int f = 0; f <= 7; f++) {
            seen.add(x.inclusive(f));
            seen.add(x.exclusive(f));
            for (int g = 0; g <= 7; g++) seen.add(x.edge(f, g));
        }
        for (int w : new int[] {1, 2, 10, 100, 500, 1600}) {
            seen.add(x.paths(w));
            seen.add(x.deepest(w));
        }
        int left = 0;
        for (int i = 0; i < 9 && left != -1; i++) {
            seen.add(x.total());
            seen.add(x.own());
            seen.add(x.hottest());
            left = x.leave();
            seen.add(left);
        }
        for (int i = 0; i < 9; i++) seen.add(x.call(i % 8));
        for (int i = 0; i < 41; i++) seen.add(x.sample(1));
        return seen;
    }
}
