// What the tests share that take the document sentence by sentence: each test bears the sentence as its name.
abstract class Sentences {
    static final int BAD_ARG = -1;
    static final int CLOSED = -2;
    static final int NONE = -3;
    static final int BUSY = -4;
    static final int STALE = -5;
    static final int FULL = -6;
    static final int MIN = Integer.MIN_VALUE;
    static final int MAX = Integer.MAX_VALUE;

    // The three ways in which a transaction ends.
    static final int BY_COMMIT = 0;
    static final int BY_ABORT = 1;
    static final int BY_CRASH = 2;

    private static int tests = 0;
    private static int wrong = 0;
    private static String sentence = "";

    static void test(String name, Runnable calls) {
        tests++;
        sentence = name;
        try {
            calls.run();
        } catch (Throwable thrown) {
            wrong++;
            System.out.println(sentence + ": threw " + thrown);
        }
    }

    static void due(String call, int got, int want) {
        if (got != want) {
            wrong++;
            System.out.println(sentence + ": " + call + " answered " + got + ", due is " + want);
        }
    }

    static void due(String call, boolean got, boolean want) {
        due(call, got ? 1 : 0, want ? 1 : 0);
    }

    // Commits the rows from 0 on with these values; no transaction is open then.
    static MvccHeap heapWith(int... values) {
        MvccHeap x = new MvccHeap();
        x.open(0);
        for (int r = 0; r < values.length; r++) {
            x.put(0, r, values[r]);
        }
        x.commit(0);
        return x;
    }

    static void end(MvccHeap x, int t, int way) {
        if (way == BY_COMMIT) {
            x.commit(t);
        } else if (way == BY_ABORT) {
            x.abort(t);
        } else {
            x.crash();
        }
    }

    static void finish() {
        System.out.println(tests + " sentences, " + wrong + " answers not as due");
        if (wrong != 0) {
            System.exit(1);
        }
    }
}
