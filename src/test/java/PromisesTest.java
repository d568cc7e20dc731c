/** Each promise by its number: ordinary inputs, edges and wrong inputs. */
public final class PromisesTest {
    private static final int[] NO_FUNCTIONS =
            {-1, 8, 9, -8, 100, Integer.MIN_VALUE, Integer.MAX_VALUE};
    private static final int[] NO_WEIGHTS =
            {0, -1, 101, 102, -100, Integer.MIN_VALUE, Integer.MAX_VALUE};

    private static final Answers answers = new Answers();

    public static void main(String[] args) {
        promise1NewObject();
        promise1ObjectsAreApart();
        promise2Call();
        promise3Leave();
        promise4Sample();
        promise4SampleIsACopy();
        promise4FortySamples();
        promise5Total();
        promise6Own();
        promise7Hottest();
        promise7HottestAtTheEdges();
        promise8Inclusive();
        promise9Exclusive();
        promise10Edge();
        promise11Paths();
        promise11PathsOfFortySamples();
        promise12Deepest();
        promise12DeepestAtTheEdges();
        refusedCallsChangeNothing();
        questionsChangeNothing();
        answers.end();
    }

    private static void due(String what, int got, int want) {
        answers.due(what, got, want);
    }

    private static void promise1NewObject() {
        Counted x = new Counted();
        due("1: new total", x.total(), 0);
        due("1: new own", x.own(), 0);
        due("1: new hottest", x.hottest(), -1);
        due("1: new paths", x.paths(1), 0);
        due("1: new deepest", x.deepest(1), 0);
        for (int f = 0; f < 8; f++) {
            due("1: new inclusive " + f, x.inclusive(f), 0);
            due("1: new exclusive " + f, x.exclusive(f), 0);
            for (int g = 0; g < 8; g++) due("1: new edge " + f + " " + g, x.edge(f, g), 0);
        }
        due("1: new leave", x.leave(), -1);
        due("1: first sample", x.sample(1), 1);
        due("1: first call", x.call(0), 1);
    }

    private static void promise1ObjectsAreApart() {
        Counted x = new Counted();
        x.sampleAt(5, 1, 2);
        Counted y = new Counted();
        due("1: second object leave", y.leave(), -1);
        due("1: second object total", y.total(), 0);
        due("1: second object sample", y.sample(9), 1);
        x.stand();
        due("1: first object total", x.total(), 5);
    }

    private static void promise2Call() {
        Counted x = new Counted();
        for (int f : NO_FUNCTIONS) due("2: call " + f, x.call(f), -1);
        due("2: nothing was put on", x.leave(), -1);
        for (int i = 0; i < 8; i++) due("2: call " + (7 - i), x.call(7 - i), i + 1);
        due("2: ninth call", x.call(0), -1);
        due("2: ninth call out of range", x.call(8), -1);
        due("2: innermost after the ninth", x.leave(), 0);
        due("2: room again", x.call(5), 8);
        due("2: innermost", x.leave(), 5);
        due("2: the one before", x.leave(), 1);
        Counted y = new Counted();
        for (int i = 1; i <= 8; i++) due("2: the same function again", y.call(3), i);
    }

    private static void promise3Leave() {
        Counted x = new Counted();
        due("3: empty", x.leave(), -1);
        due("3: empty again", x.leave(), -1);
        due("3: call after empty leaves", x.call(4), 1);
        x.call(0);
        x.call(7);
        due("3: innermost first", x.leave(), 7);
        due("3: function 0", x.leave(), 0);
        due("3: call in between", x.call(6), 2);
        due("3: put on in between", x.leave(), 6);
        due("3: outermost last", x.leave(), 4);
        due("3: empty at the end", x.leave(), -1);
    }

    private static void promise4Sample() {
        Counted x = new Counted();
        for (int w : NO_WEIGHTS) due("4: sample " + w, x.sample(w), -1);
        due("4: none was taken", x.total(), 0);
        due("4: least weight", x.sample(1), 1);
        due("4: greatest weight", x.sample(100), 2);
        for (int w : NO_WEIGHTS) due("4: sample " + w, x.sample(w), -1);
        due("4: both and no other", x.total(), 101);
        due("4: the number goes on", x.sample(50), 3);
    }

    private static void promise4SampleIsACopy() {
        Counted x = new Counted();
        x.call(1);
        x.call(2);
        x.sample(10);
        due("4: sample leaves the stack", x.leave(), 2);
        x.call(3);
        due("4: a later stack is not in the copy", x.inclusive(3), 0);
        due("4: the copy stands", x.inclusive(2), 10);
        x.sample(4);
        due("4: the first copy still stands", x.exclusive(2), 10);
        due("4: the second copy", x.exclusive(3), 4);
    }

    private static void promise4FortySamples() {
        Counted x = new Counted();
        for (int i = 1; i <= 40; i++) {
            x.stand(i % 8);
            due("4: sample " + i, x.sample(100), i);
        }
        due("4: sample 41", x.sample(1), -1);
        due("4: sample 42", x.sample(100), -1);
        due("4: sample 43 with a wrong weight", x.sample(0), -1);
        due("4: total at the stack", x.total(), 500);
        due("4: exclusive", x.exclusive(0), 500);
        x.stand();
        due("4: total of all", x.total(), 4000);
        due("4: full and another stack", x.sample(1), -1);
        due("4: own of none", x.own(), 0);
        due("4: paths with all samples", x.paths(500), 8);
        due("4: paths above", x.paths(501), 0);
        due("4: deepest with all samples", x.deepest(500), 1);
        due("4: hottest with all samples", x.hottest(), 0);
        due("4: inclusive with all samples", x.inclusive(7), 500);
        due("4: edge with all samples", x.edge(0, 1), 0);
    }

    /** 1:3, 1-2:5, 1-2-3:7, 2-1:11, 1-3:13, empty:17. */
    private static Counted ordinary() {
        Counted x = new Counted();
        x.sampleAt(3, 1);
        x.sampleAt(5, 1, 2);
        x.sampleAt(7, 1, 2, 3);
        x.sampleAt(11, 2, 1);
        x.sampleAt(13, 1, 3);
        x.sampleAt(17);
        return x;
    }

    private static void promise5Total() {
        Counted x = ordinary();
        due("5: empty stack", x.total(), 56);
        x.call(1);
        due("5: at 1", x.total(), 28);
        x.call(2);
        due("5: at 1-2", x.total(), 12);
        x.call(3);
        due("5: at 1-2-3", x.total(), 7);
        x.call(0);
        due("5: at 1-2-3-0, not in the tree", x.total(), 0);
        x.stand(2);
        due("5: at 2, a beginning only from the outermost", x.total(), 11);
        x.stand(3);
        due("5: at 3, never outermost", x.total(), 0);
        x.stand(2, 3);
        due("5: at 2-3, only inside a copy", x.total(), 0);
        x.stand(0);
        due("5: at 0, not what a short copy leaves unset", x.total(), 0);
    }

    private static void promise6Own() {
        Counted x = ordinary();
        due("6: empty stack", x.own(), 17);
        x.sample(2);
        due("6: two empty copies", x.own(), 19);
        x.call(1);
        due("6: at 1", x.own(), 3);
        x.sample(20);
        due("6: at 1, twice", x.own(), 23);
        x.call(2);
        due("6: at 1-2", x.own(), 5);
        x.call(0);
        due("6: at 1-2-0", x.own(), 0);
        x.stand(2);
        due("6: at 2, in the tree without own weight", x.own(), 0);
        x.stand(1, 3);
        due("6: at 1-3", x.own(), 13);
        x.stand(3, 1);
        due("6: at 3-1, the other order", x.own(), 0);
        Counted y = new Counted();
        y.sampleAt(6, 0, 0, 0, 0, 0, 0, 0, 0);
        due("6: full stack", y.own(), 6);
        due("6: full stack total", y.total(), 6);
        y.leave();
        due("6: seven of eight", y.own(), 0);
        due("6: seven of eight total", y.total(), 6);
    }

    private static void promise7Hottest() {
        Counted x = ordinary();
        due("7: empty stack", x.hottest(), 1);
        x.call(1);
        due("7: at 1, by total", x.hottest(), 3);
        x.sample(100);
        due("7: own weight of the stack does not count", x.hottest(), 3);
        x.call(2);
        x.sample(1);
        x.leave();
        due("7: of equals the least", x.hottest(), 2);
        x.call(2);
        due("7: at 1-2", x.hottest(), 3);
        x.call(3);
        due("7: at a leaf", x.hottest(), -1);
        x.stand(5);
        due("7: outside the tree", x.hottest(), -1);
        x.stand(2);
        due("7: at 2", x.hottest(), 1);

        Counted y = new Counted();
        y.sampleAt(9, 6);
        y.sampleAt(5, 4, 1);
        y.sampleAt(5, 4, 2);
        y.stand();
        due("7: the sum beats the single sample", y.hottest(), 4);
        y.stand(4);
        due("7: of equals the least again", y.hottest(), 1);
    }

    private static void promise7HottestAtTheEdges() {
        Counted x = new Counted();
        x.sample(100);
        due("7: only an empty copy", x.hottest(), -1);
        x.sampleAt(1, 7);
        x.stand();
        due("7: greatest function, least weight", x.hottest(), 7);
        x.sampleAt(1, 0);
        x.stand();
        due("7: function 0", x.hottest(), 0);

        Counted first = new Counted();
        first.sampleAt(2, 6);
        first.sampleAt(1, 3);
        first.stand();
        due("7: the first sample counts", first.hottest(), 6);

        // The copy behind this one must not be read as its ninth function.
        Counted y = new Counted();
        y.sampleAt(5, 1, 1, 1, 1, 1, 1, 1, 1);
        y.sample(5);
        due("7: full stack", y.hottest(), -1);
        y.leave();
        due("7: seven functions", y.hottest(), 1);
    }

    private static void promise8Inclusive() {
        Counted x = ordinary();
        due("8: 1", x.inclusive(1), 39);
        due("8: 2", x.inclusive(2), 23);
        due("8: 3", x.inclusive(3), 20);
        due("8: 0, in no copy", x.inclusive(0), 0);
        due("8: 7, in no copy", x.inclusive(7), 0);
        x.sampleAt(50, 7, 4, 7, 7, 0);
        due("8: several times in one copy counts once", x.inclusive(7), 50);
        due("8: innermost 0", x.inclusive(0), 50);
        x.sampleAt(2, 1, 1, 1, 1, 1, 1, 1, 6);
        due("8: eighth function", x.inclusive(6), 2);
        for (int f : NO_FUNCTIONS) due("8: inclusive " + f, x.inclusive(f), -1);
    }

    private static void promise9Exclusive() {
        Counted x = ordinary();
        due("9: 1", x.exclusive(1), 14);
        due("9: 2", x.exclusive(2), 5);
        due("9: 3, behind different paths", x.exclusive(3), 20);
        due("9: 0, an empty copy ends with nothing", x.exclusive(0), 0);
        x.sampleAt(4, 6, 6);
        due("9: twice in one copy", x.exclusive(6), 4);
        x.sampleAt(2, 1, 1, 1, 1, 1, 1, 1, 7);
        due("9: full copy", x.exclusive(7), 2);
        due("9: the seventh of a full copy", x.exclusive(1), 14);
        // An empty copy behind a full one must not be read as ending like it.
        x.sampleAt(30);
        due("9: full copy, then an empty one", x.exclusive(7), 2);
        for (int f : NO_FUNCTIONS) due("9: exclusive " + f, x.exclusive(f), -1);
    }

    private static void promise10Edge() {
        Counted x = ordinary();
        due("10: 1-2", x.edge(1, 2), 12);
        due("10: 2-3", x.edge(2, 3), 7);
        due("10: 2-1", x.edge(2, 1), 11);
        due("10: 1-3, right behind only", x.edge(1, 3), 13);
        due("10: 3-1", x.edge(3, 1), 0);
        due("10: 1-1", x.edge(1, 1), 0);
        due("10: 0-0", x.edge(0, 0), 0);
        x.sampleAt(50, 4, 5, 4, 5, 4);
        due("10: twice in one copy counts once", x.edge(4, 5), 50);
        due("10: the other way", x.edge(5, 4), 50);
        x.sampleAt(6, 6, 6, 6);
        due("10: a function that calls itself", x.edge(6, 6), 6);
        for (int f : NO_FUNCTIONS) {
            due("10: edge " + f + " 1", x.edge(f, 1), -1);
            due("10: edge 1 " + f, x.edge(1, f), -1);
            due("10: edge " + f + " " + f, x.edge(f, f), -1);
        }
        Counted y = new Counted();
        y.sampleAt(3, 2, 2, 2, 2, 2, 2, 0, 7);
        y.sampleAt(5, 1, 2);
        due("10: the last two of a full copy", y.edge(0, 7), 3);
        due("10: from one copy into the next", y.edge(7, 1), 0);
        due("10: the first two", y.edge(1, 2), 5);
        y.sampleAt(8, 6);
        due("10: behind a copy's end", y.edge(6, 0), 0);
    }

    private static void promise11Paths() {
        Counted x = ordinary();
        // 1:28, 1-2:12, 1-2-3:7, 2:11, 2-1:11, 1-3:13
        due("11: all", x.paths(1), 6);
        due("11: 0 is taken as 1", x.paths(0), 6);
        due("11: below 0 is taken as 1", x.paths(-7), 6);
        due("11: least int", x.paths(Integer.MIN_VALUE), 6);
        due("11: at least 7", x.paths(7), 6);
        due("11: at least 8", x.paths(8), 5);
        due("11: at least 11", x.paths(11), 5);
        due("11: at least 12", x.paths(12), 3);
        due("11: at least 13", x.paths(13), 2);
        due("11: at least 28", x.paths(28), 1);
        due("11: at least 29, the empty row is no path", x.paths(29), 0);
        due("11: greatest int", x.paths(Integer.MAX_VALUE), 0);
        x.sampleAt(1, 1, 2, 3);
        due("11: the same path again", x.paths(1), 6);
        due("11: its total grew", x.paths(8), 6);
        Counted y = new Counted();
        y.sampleAt(1, 0, 0);
        y.sampleAt(1, 0);
        due("11: a shorter copy of function 0", y.paths(1), 2);
        due("11: both go over 0", y.paths(2), 1);
    }

    /** Forty full copies that part at the fourth function at the latest. */
    private static void promise11PathsOfFortySamples() {
        Counted x = new Counted();
        x.call(0);
        x.call(0);
        for (int third = 0; third < 5; third++) {
            x.call(third);
            for (int fourth = 0; fourth < 8; fourth++) {
                x.call(fourth);
                for (int i = 0; i < 4; i++) x.call(7);
                x.sample(1);
                for (int i = 0; i < 5; i++) x.leave();
            }
            x.leave();
        }
        due("11: forty full copies", x.paths(1), 2 + 5 + 40 * 5);
        due("11: forty full copies, at least 2", x.paths(2), 2 + 5);
        due("11: forty full copies, at least 9", x.paths(9), 2);
        due("11: forty full copies, at least 41", x.paths(41), 0);
        due("12: forty full copies", x.deepest(1), 8);
        due("12: forty full copies, at least 8", x.deepest(8), 3);
        due("12: forty full copies, at least 40", x.deepest(40), 2);
        due("12: forty full copies, at least 41", x.deepest(41), 0);
    }

    private static void promise12Deepest() {
        Counted x = ordinary();
        due("12: all", x.deepest(1), 3);
        due("12: 0 is taken as 1", x.deepest(0), 3);
        due("12: below 0 is taken as 1", x.deepest(-1), 3);
        due("12: least int", x.deepest(Integer.MIN_VALUE), 3);
        due("12: at least 7", x.deepest(7), 3);
        due("12: at least 8", x.deepest(8), 2);
        due("12: at least 13", x.deepest(13), 2);
        due("12: at least 14", x.deepest(14), 1);
        due("12: at least 28", x.deepest(28), 1);
        due("12: at least 29", x.deepest(29), 0);
        due("12: greatest int", x.deepest(Integer.MAX_VALUE), 0);
    }

    private static void promise12DeepestAtTheEdges() {
        Counted x = new Counted();
        x.sample(100);
        due("12: only an empty copy", x.deepest(1), 0);
        x.sampleAt(1, 0, 0, 0, 0, 0, 0, 0, 0);
        due("12: a full copy", x.deepest(1), 8);
        x.sampleAt(4, 3, 4);
        due("12: the longest, not the last", x.deepest(1), 8);
        due("12: the heavier is shorter", x.deepest(4), 2);
        x.sampleAt(2, 0, 0, 0, 0, 0, 1);
        due("12: two samples share five", x.deepest(3), 5);
        due("12: one alone has six", x.deepest(2), 6);
        Counted y = new Counted();
        y.sampleAt(1, 5, 6, 7);
        y.sampleAt(1, 5);
        due("12: the first sample counts", y.deepest(1), 3);
    }

    private static void refusedCallsChangeNothing() {
        Counted x = ordinary();
        x.stand(1, 2);
        for (int f : NO_FUNCTIONS) {
            x.call(f);
            x.inclusive(f);
            x.exclusive(f);
            x.edge(f, 1);
            x.edge(1, f);
        }
        for (int w : NO_WEIGHTS) x.sample(w);
        due("refused: total", x.total(), 12);
        due("refused: own", x.own(), 5);
        due("refused: hottest", x.hottest(), 3);
        due("refused: paths", x.paths(1), 6);
        due("refused: next sample", x.sample(1), 7);
        due("refused: next call", x.call(3), 3);
    }

    private static void questionsChangeNothing() {
        Counted x = ordinary();
        x.stand(1, 2);
        for (int i = 0; i < 3; i++) {
            due("asked again: total", x.total(), 12);
            due("asked again: own", x.own(), 5);
            due("asked again: hottest", x.hottest(), 3);
            due("asked again: inclusive", x.inclusive(2), 23);
            due("asked again: exclusive", x.exclusive(3), 20);
            due("asked again: edge", x.edge(1, 2), 12);
            due("asked again: paths", x.paths(8), 5);
            due("asked again: deepest", x.deepest(8), 2);
        }
        due("after questions: leave", x.leave(), 2);
        due("after questions: leave again", x.leave(), 1);
        due("after questions: empty", x.leave(), -1);
        due("after questions: next sample", x.sample(1), 7);
    }
}
