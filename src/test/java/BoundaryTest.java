import java.util.Arrays;

/**
 * Each sentence of the document that names a boundary case, in the document's
 * order: the sentence stands above its test. That a refused call changes
 * nothing is looked at by RefusalTest.
 */
public final class BoundaryTest {
    private static final int LEAST = Integer.MIN_VALUE;
    private static final int GREATEST = Integer.MAX_VALUE;

    private static final Answers answers = new Answers();

    public static void main(String[] args) {
        whatItIsThe512thCallIsAnsweredRightly();
        whatItIsOneCall512Times();
        whatItIsLaterCallsEnd();
        termsFunctionsAre0To7();
        termsStackOfAtMost8();
        termsFunctionMoreThanOnce();
        termsWeightFrom1To100();
        termsAtMost40Samples();
        termsPathOf1To8Functions();
        termsGoesOverABeginningOrTheWhole();
        termsOwnIsExactlyThePath();
        termsNothingBehindACopysEnd();
        termsInTheTreeAbove0();
        promise1NoSampleAndEmptyStack();
        promise2RefusedIfThereAre8();
        promise2RefusedIfOutOfRange();
        promise3EmptyStack();
        promise4WeightNotFrom1To100();
        promise4ThereAre40();
        promise4OnEmptyAndFullStack();
        promise5EmptyStack();
        promise5FullStack();
        promise6EmptyStack();
        promise6FullStack();
        promise7LeastOfSeveral();
        promise7NoneInTheTree();
        promise7StackHas8();
        promise8AtLeastOnce();
        promise8OutOfRange();
        promise9EndsWith();
        promise9OutOfRange();
        promise10RightBehindAtLeastOnce();
        promise10NeverOverACopysEnd();
        promise10OutOfRange();
        promise11AtLeastWeight();
        promise11WeightBelow1();
        promise11EmptyAndFull();
        promise12AtLeastWeight();
        promise12WeightBelow1();
        promise12NoneIs0();
        answers.end();
    }

    private static void due(String what, int got, int want) {
        answers.due(what, got, want);
    }

    private static boolean isFunction(int f) {
        return 0 <= f && f <= 7;
    }

    /** The first functions of one fixed row in which no two neighbours are alike. */
    private static int[] row(int length) {
        return Arrays.copyOf(new int[] {3, 0, 7, 1, 0, 6, 7, 2}, length);
    }

    private static int[] times(int length, int function) {
        int[] all = new int[length];
        Arrays.fill(all, function);
        return all;
    }

    private static void fortySamples(Counted x, int weight) {
        for (int i = 1; i <= 40; i++) x.sample(weight);
    }

    // ---- What it is

    /** 1-2 is on the stack and has a sample of weight 5; 511 calls are made. */
    private static Counted oneCallLeft() {
        Counted x = new Counted();
        x.sampleAt(5, 1, 2);
        while (x.calls() < 500) {
            x.call(3);
            x.leave();
            x.call(8);
            x.sample(101);
            x.paths(1);
        }
        while (x.calls() < Counted.MOST_CALLS - 1) x.total();
        return x;
    }

    // "An object is used for at most 512 calls after it has been made"
    private static void whatItIsThe512thCallIsAnsweredRightly() {
        due("512th: call", oneCallLeft().call(7), 3);
        due("512th: call 8", oneCallLeft().call(8), -1);
        due("512th: leave", oneCallLeft().leave(), 2);
        due("512th: sample", oneCallLeft().sample(100), 2);
        due("512th: sample 101", oneCallLeft().sample(101), -1);
        due("512th: total", oneCallLeft().total(), 5);
        due("512th: own", oneCallLeft().own(), 5);
        due("512th: hottest", oneCallLeft().hottest(), -1);
        due("512th: inclusive", oneCallLeft().inclusive(1), 5);
        due("512th: exclusive", oneCallLeft().exclusive(2), 5);
        due("512th: edge", oneCallLeft().edge(1, 2), 5);
        due("512th: paths", oneCallLeft().paths(5), 2);
        due("512th: deepest", oneCallLeft().deepest(5), 2);
    }

    // the same sentence: all 512 calls may be of one kind
    private static void whatItIsOneCall512Times() {
        Counted calls = new Counted();
        Counted leaves = new Counted();
        Counted samples = new Counted();
        Counted turns = new Counted();
        for (int i = 1; i <= Counted.MOST_CALLS; i++) {
            due("call number " + i, calls.call(i % 8), i <= 8 ? i : -1);
            due("leave number " + i, leaves.leave(), -1);
            due("sample number " + i, samples.sample(1 + i % 100), i <= 40 ? i : -1);
            due("turn number " + i,
                    i % 2 == 1 ? turns.call(i / 2 % 8) : turns.leave(),
                    i % 2 == 1 ? 1 : (i - 1) / 2 % 8);
        }
    }

    // "what later calls answer is free": free to answer, but it does not throw
    private static void whatItIsLaterCallsEnd() {
        FlameTree x = new FlameTree();
        int[] arguments = {0, 7, 8, -1, 1, 100, 101, LEAST, GREATEST};
        for (int i = 0; i < 300; i++) {
            int a = arguments[i % arguments.length];
            int b = arguments[i / 9 % arguments.length];
            x.call(a);
            x.call(i % 8);
            x.sample(a);
            x.total();
            x.own();
            x.hottest();
            x.inclusive(a);
            x.exclusive(a);
            x.edge(a, b);
            x.paths(a);
            x.deepest(a);
            if (i % 50 > 30) x.leave();
            if (i % 50 > 30) x.leave();
            if (i % 50 > 30) x.leave();
        }
        answers.dueTrue("calls after the 512th end", true);
    }

    // ---- Terms

    // "FUNCTIONS are 0 to 7."
    private static void termsFunctionsAre0To7() {
        int[] tried = {LEAST, LEAST + 1, -8, -2, -1, 0, 1, 2, 3, 4, 5, 6, 7, 8, 9, 15, 16, GREATEST};
        for (int f : tried) {
            boolean taken = isFunction(f);
            Counted x = new Counted();
            due("call " + f, x.call(f), taken ? 1 : -1);
            due("leave after call " + f, x.leave(), taken ? f : -1);
            due("inclusive " + f, x.inclusive(f), taken ? 0 : -1);
            due("exclusive " + f, x.exclusive(f), taken ? 0 : -1);
            for (int g : tried) {
                due("edge " + f + " " + g, x.edge(f, g), taken && isFunction(g) ? 0 : -1);
            }
        }
        for (int f = 0; f <= 7; f++) {
            Counted x = new Counted();
            x.sampleAt(9, f);
            x.stand();
            due("hottest can be " + f, x.hottest(), f);
        }
    }

    // "THE STACK is a row of at most 8 functions, the outermost first, empty at the start"
    private static void termsStackOfAtMost8() {
        Counted x = new Counted();
        due("empty at the start", x.leave(), -1);
        int[] row = row(8);
        for (int i = 0; i < 8; i++) due("function " + (i + 1), x.call(row[i]), i + 1);
        due("a ninth", x.call(5), -1);
        for (int i = 7; i >= 0; i--) due("leave the function " + (i + 1), x.leave(), row[i]);
        due("empty again", x.leave(), -1);
        due("and not below empty", x.call(4), 1);
    }

    // "a function may be on it more than once"
    private static void termsFunctionMoreThanOnce() {
        for (int f = 0; f <= 7; f++) {
            Counted x = new Counted();
            for (int i = 1; i <= 8; i++) due(f + " on the stack again", x.call(f), i);
            for (int i = 1; i <= 8; i++) due(f + " off the stack again", x.leave(), f);
            due("empty after eight", x.leave(), -1);
        }
    }

    // "a WEIGHT from 1 to 100"
    private static void termsWeightFrom1To100() {
        for (int w = 1; w <= 100; w++) {
            Counted x = new Counted();
            due("sample " + w, x.sample(w), 1);
            due("total of a sample of " + w, x.total(), w);
        }
    }

    // "at most 40 samples are taken"
    private static void termsAtMost40Samples() {
        Counted x = new Counted();
        for (int i = 1; i <= 39; i++) due("sample", x.sample(100), i);
        due("total of 39", x.total(), 3900);
        due("the 40th", x.sample(100), 40);
        due("total of 40", x.total(), 4000);
        due("a 41st", x.sample(100), -1);
        due("total is that of 40", x.total(), 4000);
    }

    // "A PATH is a row of 1 to 8 functions."
    private static void termsPathOf1To8Functions() {
        for (int length = 0; length <= 8; length++) {
            Counted x = new Counted();
            x.sampleAt(2, row(length));
            due("paths of a copy of " + length, x.paths(1), length);
            due("deepest of a copy of " + length, x.deepest(1), length);
        }
    }

    // "A sample GOES OVER a path if the path is a beginning of the sample's copy (or the whole)."
    private static void termsGoesOverABeginningOrTheWhole() {
        for (int length = 0; length <= 8; length++) {
            Counted x = new Counted();
            x.sampleAt(6, row(length));
            for (int n = 1; n <= 8; n++) {
                x.stand(row(n));
                due("total at " + n + " of a copy of " + length, x.total(), n <= length ? 6 : 0);
                int[] other = row(n);
                other[n - 1] = 4;
                x.stand(other);
                due("total at " + n + ", the last one different", x.total(), 0);
                other = row(n);
                other[0] = 4;
                x.stand(other);
                due("total at " + n + ", the first one different", x.total(), 0);
            }
        }
    }

    // "its OWN weight the sum of the weights of the samples whose copy is exactly the path"
    private static void termsOwnIsExactlyThePath() {
        for (int length = 0; length <= 8; length++) {
            Counted x = new Counted();
            x.sampleAt(6, row(length));
            for (int n = 0; n <= 8; n++) {
                x.stand(row(n));
                due("own at " + n + " of a copy of " + length, x.own(), n == length ? 6 : 0);
            }
        }
    }

    // the same two sentences: what a short copy leaves unset is not function 0
    private static void termsNothingBehindACopysEnd() {
        for (int length = 0; length <= 8; length++) {
            Counted x = new Counted();
            x.sampleAt(6, times(length, 0));
            for (int n = 0; n <= 8; n++) {
                x.stand(times(n, 0));
                due("own at " + n + " of " + length + " zeros", x.own(), n == length ? 6 : 0);
                due("total at " + n + " of " + length + " zeros", x.total(), n <= length ? 6 : 0);
            }
            x.sampleAt(1, times(8, 0));
            due("paths of 7, " + length + " and 8 zeros", x.paths(7), length);
            due("deepest of 7, " + length + " and 8 zeros", x.deepest(7), length);
            due("paths of 1, " + length + " and 8 zeros", x.paths(1), 8);
            due("deepest of 1, " + length + " and 8 zeros", x.deepest(1), 8);
        }
    }

    // "A path is in THE TREE if its total is above 0."
    private static void termsInTheTreeAbove0() {
        Counted x = new Counted();
        x.stand(5);
        due("total 0: paths", x.paths(1), 0);
        due("total 0: deepest", x.deepest(1), 0);
        x.sample(1);
        due("total 1: paths", x.paths(1), 1);
        due("total 1: deepest", x.deepest(1), 1);
        x.leave();
        due("total 1: hottest", x.hottest(), 5);
    }

    // ---- Promises

    // Promise 1: "No sample; the stack is empty."
    private static void promise1NoSampleAndEmptyStack() {
        due("1: leave", new Counted().leave(), -1);
        due("1: call", new Counted().call(0), 1);
        due("1: sample", new Counted().sample(1), 1);
        due("1: total", new Counted().total(), 0);
        due("1: own", new Counted().own(), 0);
        due("1: hottest", new Counted().hottest(), -1);
        for (int w : new int[] {LEAST, -1, 0, 1, 2, GREATEST}) {
            due("1: paths " + w, new Counted().paths(w), 0);
            due("1: deepest " + w, new Counted().deepest(w), 0);
        }
        Counted x = new Counted();
        for (int f = 0; f <= 7; f++) {
            due("1: inclusive " + f, x.inclusive(f), 0);
            due("1: exclusive " + f, x.exclusive(f), 0);
            for (int g = 0; g <= 7; g++) due("1: edge " + f + " " + g, x.edge(f, g), 0);
        }
    }

    // Promise 2: "-1 also if there are 8."
    private static void promise2RefusedIfThereAre8() {
        for (int f = 0; f <= 7; f++) {
            Counted x = new Counted();
            x.stand(row(7));
            due("2: the eighth is taken", x.call(f), 8);
            for (int g = 0; g <= 7; g++) due("2: a ninth, " + g, x.call(g), -1);
            due("2: the eighth is the innermost", x.leave(), f);
            due("2: taken again after a leave", x.call(7 - f), 8);
            due("2: and refused again", x.call(0), -1);
        }
    }

    // Promise 2, by Terms: "A function out of range is refused"
    private static void promise2RefusedIfOutOfRange() {
        for (int depth = 0; depth <= 8; depth++) {
            Counted x = new Counted();
            x.stand(row(depth));
            for (int f : new int[] {-1, 8, LEAST, GREATEST}) {
                due("2: call " + f + " at " + depth, x.call(f), -1);
            }
            due("2: last function at " + depth, x.call(7), depth < 8 ? depth + 1 : -1);
            x.leave();
            due("2: first function at " + depth, x.call(0), depth < 8 ? depth + 1 : 8);
        }
    }

    // Promise 3: "-1 if the stack is empty."
    private static void promise3EmptyStack() {
        Counted x = new Counted();
        due("3: never called", x.leave(), -1);
        x.call(0);
        due("3: the only one, 0, is not taken for empty", x.leave(), 0);
        due("3: empty again", x.leave(), -1);
        x.stand(row(8));
        for (int i = 7; i >= 0; i--) due("3: from full, " + i, x.leave(), row(8)[i]);
        due("3: empty after full", x.leave(), -1);
        due("3: and again", x.leave(), -1);
        x.sample(1);
        due("3: empty with a sample", x.leave(), -1);
    }

    // Promise 4: "-1, and changes nothing, if weight is not from 1 to 100"
    private static void promise4WeightNotFrom1To100() {
        Counted x = new Counted();
        int taken = 0;
        for (int w : new int[] {0, 1, 100, 101, -1, 2, 99, 102, LEAST, GREATEST, -100, 200, 257}) {
            boolean good = 1 <= w && w <= 100;
            if (good) taken++;
            due("4: sample " + w, x.sample(w), good ? taken : -1);
        }
        due("4: total of the taken ones", x.total(), 1 + 100 + 2 + 99);
    }

    // Promise 4: "or there are 40"
    private static void promise4ThereAre40() {
        Counted x = new Counted();
        for (int i = 1; i <= 40; i++) {
            due("4: refused before number " + i, x.sample(0), -1);
            due("4: refused before number " + i, x.sample(101), -1);
            due("4: sample number " + i, x.sample(1), i);
        }
        for (int w : new int[] {1, 100, 50, 0, 101}) due("4: 41st, " + w, x.sample(w), -1);
        due("4: call with 40", x.call(6), 1);
        due("4: 41st at another stack", x.sample(1), -1);
        due("4: nothing at that stack", x.total(), 0);
        due("4: leave with 40", x.leave(), 6);
        due("4: total of 40", x.total(), 40);
    }

    // Promise 4: "Takes a sample", of "the stack", which may be empty or full
    private static void promise4OnEmptyAndFullStack() {
        Counted x = new Counted();
        due("4: at the empty stack", x.sample(1), 1);
        x.stand(row(8));
        due("4: at the full stack", x.sample(1), 2);
        due("4: the full stack stays full", x.call(0), -1);
        x.stand();
        due("4: the empty stack stays empty", x.leave(), -1);

        // The 40th copy fills the last place there is.
        Counted y = new Counted();
        for (int i = 1; i <= 39; i++) y.sample(1);
        y.stand(row(8));
        due("4: the 40th at the full stack", y.sample(7), 40);
        due("4: its own", y.own(), 7);
        due("4: its end", y.exclusive(row(8)[7]), 7);
        due("4: its paths", y.paths(7), 8);
        y.stand();
        due("4: the other 39", y.own(), 39);
    }

    // Promise 5: "the sum of the weights of all samples if the stack is empty"
    private static void promise5EmptyStack() {
        Counted x = new Counted();
        due("5: no sample", x.total(), 0);
        x.sample(3);
        due("5: an empty copy counts", x.total(), 3);
        x.sampleAt(4, 7);
        x.stand();
        due("5: a copy of one counts", x.total(), 7);
        x.sampleAt(5, row(8));
        x.stand();
        due("5: a full copy counts", x.total(), 12);
        due("5: not emptied by asking", x.total(), 12);
    }

    // Promise 5: "The total of the path that is on the stack now", up to 8 functions
    private static void promise5FullStack() {
        Counted x = new Counted();
        x.stand(row(8));
        due("5: full stack, no sample", x.total(), 0);
        fortySamples(x, 100);
        due("5: full stack, 40 samples at it", x.total(), 4000);
        x.leave();
        due("5: seven of them", x.total(), 4000);
        x.call(7);
        due("5: the eighth different", x.total(), 0);
    }

    // Promise 6: "the sum of the weights of the samples with an empty copy if the stack is empty"
    private static void promise6EmptyStack() {
        Counted x = new Counted();
        due("6: no sample", x.own(), 0);
        x.sampleAt(4, 0);
        x.sampleAt(5, row(8));
        x.stand();
        due("6: no empty copy", x.own(), 0);
        x.sample(1);
        due("6: one empty copy", x.own(), 1);
        x.sample(100);
        due("6: two empty copies", x.own(), 101);
        Counted y = new Counted();
        fortySamples(y, 100);
        due("6: 40 empty copies", y.own(), 4000);
        y.call(0);
        due("6: none of them at 0", y.own(), 0);
    }

    // Promise 6: "The own weight of the path that is on the stack now", up to 8 functions
    private static void promise6FullStack() {
        Counted x = new Counted();
        x.stand(row(8));
        due("6: full stack, no sample", x.own(), 0);
        fortySamples(x, 100);
        due("6: full stack, 40 samples at it", x.own(), 4000);
        x.leave();
        due("6: seven of them", x.own(), 0);
        x.call(7);
        due("6: the eighth different", x.own(), 0);
    }

    // Promise 7: "of several the least f"
    private static void promise7LeastOfSeveral() {
        Counted x = new Counted();
        for (int f = 7; f >= 0; f--) {
            x.sampleAt(10, f);
            x.stand();
            due("7: all from " + f + " alike", x.hottest(), f);
        }
        x.sampleAt(1, 7);
        x.stand();
        due("7: one more for 7", x.hottest(), 7);
        x.sampleAt(1, 6);
        x.stand();
        due("7: 6 and 7 alike", x.hottest(), 6);
        x.sampleAt(1, 7);
        x.stand();
        due("7: 7 ahead again", x.hottest(), 7);
    }

    // Promise 7: "-1 if none of them is in the tree"
    private static void promise7NoneInTheTree() {
        Counted x = new Counted();
        due("7: no sample, empty stack", x.hottest(), -1);
        x.sample(100);
        due("7: only an empty copy", x.hottest(), -1);
        for (int length = 1; length <= 7; length++) {
            x.stand(row(length));
            due("7: not in the tree at " + length, x.hottest(), -1);
            x.sample(100);
            due("7: only a copy that is the stack, at " + length, x.hottest(), -1);
            x.leave();
            due("7: it comes next, one before", x.hottest(), row(length)[length - 1]);
        }
        x.stand(4);
        due("7: off every path", x.hottest(), -1);
        Counted y = new Counted();
        fortySamples(y, 100);
        due("7: 40 empty copies", y.hottest(), -1);
    }

    // Promise 7: "or the stack has 8 functions"
    private static void promise7StackHas8() {
        Counted x = new Counted();
        x.stand(times(8, 0));
        due("7: full, no sample", x.hottest(), -1);
        fortySamples(x, 1);
        due("7: full, 40 full copies", x.hottest(), -1);
        for (int n = 7; n >= 0; n--) {
            x.leave();
            due("7: with " + n, x.hottest(), 0);
        }
        // What stands behind a full copy is the next one, not a ninth function.
        Counted y = new Counted();
        y.sampleAt(5, row(8));
        y.sampleAt(5, 4);
        y.stand(row(8));
        due("7: full, another copy behind", y.hottest(), -1);
    }

    // Promise 8: "in whose copy the function stands at least once"
    private static void promise8AtLeastOnce() {
        for (int count = 0; count <= 8; count++) {
            Counted x = new Counted();
            int[] copy = times(8, 4);
            Arrays.fill(copy, 0, count, 5);
            x.sampleAt(3, copy);
            due("8: stands " + count + " times", x.inclusive(5), count > 0 ? 3 : 0);
            due("8: the others " + (8 - count) + " times", x.inclusive(4), count < 8 ? 3 : 0);
        }
        for (int place = 0; place < 8; place++) {
            for (int f : new int[] {0, 7}) {
                Counted x = new Counted();
                int[] copy = times(8, 4);
                copy[place] = f;
                x.sampleAt(3, copy);
                due("8: " + f + " in place " + place, x.inclusive(f), 3);
                due("8: the other end", x.inclusive(7 - f), 0);
            }
        }
        Counted empty = new Counted();
        fortySamples(empty, 100);
        due("8: 40 empty copies", empty.inclusive(0), 0);
        Counted full = new Counted();
        full.stand(times(8, 0));
        fortySamples(full, 100);
        due("8: 40 full copies", full.inclusive(0), 4000);
    }

    // Promise 8: "; -1", by Terms: "A function out of range is refused"
    private static void promise8OutOfRange() {
        Counted x = new Counted();
        x.sampleAt(3, 0, 7);
        for (int f : new int[] {-1, 8, -2, 9, LEAST, GREATEST}) {
            due("8: inclusive " + f, x.inclusive(f), -1);
        }
        due("8: first function", x.inclusive(0), 3);
        due("8: last function", x.inclusive(7), 3);
        due("8: a function in no copy is not refused", x.inclusive(1), 0);
    }

    // Promise 9: "whose copy ends with the function"
    private static void promise9EndsWith() {
        for (int length = 0; length <= 8; length++) {
            Counted x = new Counted();
            x.sampleAt(3, row(length));
            for (int f = 0; f <= 7; f++) {
                boolean ends = length > 0 && row(length)[length - 1] == f;
                due("9: " + f + " ends a copy of " + length, x.exclusive(f), ends ? 3 : 0);
            }
        }
        // An empty copy must not end like the copy before it.
        Counted x = new Counted();
        x.sampleAt(3, times(8, 7));
        x.sampleAt(10);
        due("9: a full copy, then an empty one", x.exclusive(7), 3);
        Counted empty = new Counted();
        fortySamples(empty, 100);
        due("9: 40 empty copies", empty.exclusive(0), 0);
        Counted full = new Counted();
        full.stand(row(8));
        fortySamples(full, 100);
        due("9: 40 full copies", full.exclusive(row(8)[7]), 4000);
    }

    // Promise 9: "; -1", by Terms: "A function out of range is refused"
    private static void promise9OutOfRange() {
        Counted x = new Counted();
        x.sampleAt(3, 0);
        x.sampleAt(4, 7);
        for (int f : new int[] {-1, 8, -2, 9, LEAST, GREATEST}) {
            due("9: exclusive " + f, x.exclusive(f), -1);
        }
        due("9: first function", x.exclusive(0), 3);
        due("9: last function", x.exclusive(7), 4);
        due("9: a function in no copy is not refused", x.exclusive(1), 0);
    }

    // Promise 10: "the function callee stands at least once right behind the function caller"
    private static void promise10RightBehindAtLeastOnce() {
        for (int place = 0; place < 7; place++) {
            Counted x = new Counted();
            int[] copy = times(8, 4);
            copy[place] = 0;
            copy[place + 1] = 7;
            x.sampleAt(3, copy);
            due("10: 0-7 from place " + place, x.edge(0, 7), 3);
            due("10: 7-0 from place " + place, x.edge(7, 0), 0);
            due("10: 4-0 from place " + place, x.edge(4, 0), place > 0 ? 3 : 0);
            due("10: 7-4 from place " + place, x.edge(7, 4), place < 6 ? 3 : 0);
        }
        for (int length = 0; length <= 8; length++) {
            Counted x = new Counted();
            x.sampleAt(3, times(length, 0));
            due("10: 0-0 in a copy of " + length, x.edge(0, 0), length >= 2 ? 3 : 0);
        }
        Counted apart = new Counted();
        apart.sampleAt(3, 1, 5, 2);
        due("10: behind, not right behind", apart.edge(1, 2), 0);
        Counted full = new Counted();
        full.stand(times(8, 7));
        fortySamples(full, 100);
        due("10: 40 full copies", full.edge(7, 7), 4000);
    }

    // the same sentence: "in whose copy", so not from one copy into another
    private static void promise10NeverOverACopysEnd() {
        Counted x = new Counted();
        x.sampleAt(3, 2, 2, 2, 2, 2, 2, 2, 5);
        x.sampleAt(3, 6);
        x.sampleAt(3);
        x.sampleAt(3, 1);
        due("10: from a full copy into the next", x.edge(5, 6), 0);
        due("10: from a copy of one into the next", x.edge(6, 1), 0);
        due("10: from a copy's end into what is unset", x.edge(6, 0), 0);
        due("10: in an empty copy", x.edge(0, 0), 0);
    }

    // Promise 10: "; -1", by Terms: "A function out of range is refused"
    private static void promise10OutOfRange() {
        Counted x = new Counted();
        x.sampleAt(3, 0, 7, 0);
        for (int f : new int[] {-1, 8, -2, 9, LEAST, GREATEST}) {
            for (int g : new int[] {0, 7}) {
                due("10: edge " + f + " " + g, x.edge(f, g), -1);
                due("10: edge " + g + " " + f, x.edge(g, f), -1);
            }
            due("10: edge " + f + " " + f, x.edge(f, f), -1);
        }
        due("10: edge -1 8", x.edge(-1, 8), -1);
        due("10: edge 8 -1", x.edge(8, -1), -1);
        due("10: first and last function", x.edge(0, 7), 3);
        due("10: last and first function", x.edge(7, 0), 3);
        due("10: an edge in no copy is not refused", x.edge(7, 7), 0);
    }

    /** Totals: 1 has 6, 1-2 has 3, 1-2-3 has 1, 4 has 100. */
    private static Counted fourPaths() {
        Counted x = new Counted();
        x.sampleAt(3, 1);
        x.sampleAt(2, 1, 2);
        x.sampleAt(1, 1, 2, 3);
        x.sampleAt(100, 4);
        return x;
    }

    // Promise 11: "How many paths in the tree have a total of at least weight"
    private static void promise11AtLeastWeight() {
        Counted x = fourPaths();
        int[][] weightAndDue = {{1, 4}, {2, 3}, {3, 3}, {4, 2}, {6, 2}, {7, 1},
            {100, 1}, {101, 0}, {106, 0}, {GREATEST, 0}};
        for (int[] pair : weightAndDue) due("11: paths " + pair[0], x.paths(pair[0]), pair[1]);
    }

    // Promise 11: "weight below 1 is taken as 1"
    private static void promise11WeightBelow1() {
        Counted none = new Counted();
        Counted empty = new Counted();
        empty.sample(100);
        Counted x = fourPaths();
        for (int w : new int[] {1, 0, -1, -2, -100, LEAST + 1, LEAST}) {
            due("11: paths " + w + ", no sample", none.paths(w), 0);
            due("11: paths " + w + ", an empty copy", empty.paths(w), 0);
            due("11: paths " + w, x.paths(w), 4);
        }
    }

    // Promise 11: "How many paths", by Terms "a row of 1 to 8 functions", of at most 40 samples
    private static void promise11EmptyAndFull() {
        Counted empty = new Counted();
        fortySamples(empty, 100);
        due("11: 40 empty copies", empty.paths(1), 0);
        Counted full = new Counted();
        full.stand(row(8));
        fortySamples(full, 100);
        due("11: 40 times one full copy", full.paths(1), 8);
        due("11: of 4000", full.paths(4000), 8);
        due("11: of 4001", full.paths(4001), 0);

        // The eighth function alone parts the copies, or the first one.
        Counted last = new Counted();
        last.stand(times(7, 0));
        for (int f = 0; f <= 7; f++) {
            last.call(f);
            for (int i = 0; i < 5; i++) last.sample(1);
            last.leave();
        }
        due("11: parted by the eighth", last.paths(1), 15);
        due("11: parted by the eighth, of 5", last.paths(5), 15);
        due("11: parted by the eighth, of 6", last.paths(6), 7);
        due("11: parted by the eighth, of 40", last.paths(40), 7);
        due("11: parted by the eighth, of 41", last.paths(41), 0);
        Counted first = new Counted();
        for (int f = 0; f <= 7; f++) {
            int[] copy = times(8, 0);
            copy[0] = f;
            first.stand(copy);
            for (int i = 0; i < 5; i++) first.sample(1);
        }
        due("11: parted by the first", first.paths(5), 64);
        due("11: parted by the first, of 6", first.paths(6), 0);
    }

    // Promise 12: "the longest path in the tree whose total is at least weight"
    private static void promise12AtLeastWeight() {
        Counted x = fourPaths();
        int[][] weightAndDue = {{1, 3}, {2, 2}, {3, 2}, {4, 1}, {6, 1}, {7, 1},
            {100, 1}, {101, 0}, {106, 0}, {GREATEST, 0}};
        for (int[] pair : weightAndDue) due("12: deepest " + pair[0], x.deepest(pair[0]), pair[1]);
        Counted full = new Counted();
        full.stand(row(8));
        fortySamples(full, 100);
        due("12: 40 full copies", full.deepest(4000), 8);
        due("12: 40 full copies, of 4001", full.deepest(4001), 0);
    }

    // Promise 12: "weight below 1 is taken as 1"
    private static void promise12WeightBelow1() {
        Counted x = fourPaths();
        for (int w : new int[] {1, 0, -1, -2, -100, LEAST + 1, LEAST}) {
            due("12: deepest " + w, x.deepest(w), 3);
        }
    }

    // Promise 12: "0 if there is none"
    private static void promise12NoneIs0() {
        Counted none = new Counted();
        Counted empty = new Counted();
        fortySamples(empty, 100);
        for (int w : new int[] {LEAST, -1, 0, 1, 4000, GREATEST}) {
            due("12: deepest " + w + ", no sample", none.deepest(w), 0);
            due("12: deepest " + w + ", 40 empty copies", empty.deepest(w), 0);
        }
        none.stand(row(8));
        due("12: a full stack is no sample", none.deepest(1), 0);
        none.sample(5);
        due("12: of the total", none.deepest(5), 8);
        due("12: above the total", none.deepest(6), 0);
    }
}
