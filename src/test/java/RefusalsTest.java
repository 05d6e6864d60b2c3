import java.util.ArrayList;
import java.util.List;
import java.util.function.ToIntFunction;

// "A refused call answers the code named and changes nothing." Each refused call is made on one of two objects that
// were brought to the same state; then all that can be seen of the two, in several ways on from there, must be the
// same. "No call ever throws." Each call is made with each mix of near and far arguments, in several states.
public final class RefusalsTest {
    private static final int BAD_ARG = -1;
    private static final int CLOSED = -2;
    private static final int NONE = -3;
    private static final int BUSY = -4;
    private static final int STALE = -5;
    private static final int FULL = -6;
    private static final int NOTHING = 0;
    private static final int MIN = Integer.MIN_VALUE;
    private static final int MAX = Integer.MAX_VALUE;
    private static final int[] NO_TRANSACTIONS = {MIN, -32, -4, -1, 4, 5, 8, 32, MAX};
    private static final int[] NO_ROWS = {MIN, -32, -8, -1, 8, 9, 16, 32, MAX};

    private static int wrong = 0;

    private static void fail(String what) {
        wrong++;
        System.out.println(what);
    }

    private static int bit(boolean b) {
        return b ? 1 : 0;
    }

    // Rows 0 to 5 are committed, then transaction 1 opens, then 3 commits changes in rows 2, 3 and 6. Transaction 0 is
    // open with changes in rows 0, 1, 3 and 7 and two savepoints; 1 with changes in rows 4 and 5 and three savepoints;
    // 2 with nothing done; 3 is not open. So row 3 is both BUSY and STALE for 1.
    private static MvccHeap start() {
        MvccHeap x = new MvccHeap();
        x.open(3);
        for (int r = 0; r <= 5; r++) {
            x.put(3, r, 10 + r);
        }
        x.commit(3);
        x.open(1);
        x.open(3);
        x.put(3, 2, 200);
        x.put(3, 6, 600);
        x.add(3, 3, 300);
        x.save(3);
        x.commit(3);
        x.open(0);
        x.put(0, 0, 1);
        x.save(0);
        x.drop(0, 1);
        x.save(0);
        x.put(0, 7, 7);
        x.add(0, 3, 1);
        x.save(1);
        x.put(1, 4, 40);
        x.save(1);
        x.add(1, 4, 1);
        x.save(1);
        x.put(1, 5, 50);
        x.open(2);
        return x;
    }

    // ---- What can be seen of an object, in several ways on from its state

    private static final int WAYS_ON = 9;

    private static List<Integer> seenOn(MvccHeap x, int way) {
        List<Integer> seen = new ArrayList<>();
        if (way >= 5) {
            writeAll(seen, x, way - 5);
        } else {
            switch (way) {
                case 0: break;
                case 1: goBack(seen, x); break;
                case 2: saveMore(seen, x); break;
                case 3: closeAll(seen, x); break;
                default: seen.add(x.crash()); break;
            }
        }
        readAll(seen, x);
        for (int t = 0; t <= 3; t++) {
            seen.add(x.open(t));
        }
        readAll(seen, x);
        return seen;
    }

    private static void readAll(List<Integer> seen, MvccHeap x) {
        for (int t = 0; t <= 3; t++) {
            read(seen, x, t);
        }
        for (int r = 0; r <= 7; r++) {
            seen.add(x.committed(r));
        }
        seen.add(x.rows());
    }

    private static void read(List<Integer> seen, MvccHeap x, int t) {
        seen.add(x.changed(t));
        seen.add(x.count(t));
        seen.add(x.sum(t));
        seen.add(x.find(t, 0, 11));
        for (int r = 0; r <= 7; r++) {
            seen.add(x.get(t, r));
            seen.add(bit(x.has(t, r)));
        }
    }

    private static void goBack(List<Integer> seen, MvccHeap x) {
        for (int t = 0; t <= 2; t++) {
            for (int i = 0; i < 4; i++) {
                seen.add(x.back(t));
                seen.add(x.changed(t));
                seen.add(x.sum(t));
                seen.add(x.count(t));
            }
        }
    }

    private static void saveMore(List<Integer> seen, MvccHeap x) {
        for (int t = 0; t <= 3; t++) {
            for (int i = 0; i < 4; i++) {
                seen.add(x.save(t));
            }
        }
    }

    private static void closeAll(List<Integer> seen, MvccHeap x) {
        for (int t = 3; t >= 0; t--) {
            seen.add(x.commit(t));
            seen.add(x.rows());
        }
    }

    private static void writeAll(List<Integer> seen, MvccHeap x, int t) {
        for (int r = 0; r <= 7; r++) {
            seen.add(x.add(t, r, 1));
            seen.add(x.put(t, r, 70 + r));
            seen.add(x.drop(t, r));
        }
    }

    // ---- Each refused call

    private static void refused(String call, ToIntFunction<MvccHeap> made, int want) {
        for (int way = 0; way < WAYS_ON; way++) {
            MvccHeap x = start();
            int got = made.applyAsInt(x);
            int again = made.applyAsInt(x);
            if (got != want || again != want) {
                fail(call + " answered " + got + ", then " + again + ", due is " + want);
                return;
            }
            if (!seenOn(x, way).equals(seenOn(start(), way))) {
                fail(call + " was refused and changed something, seen on way " + way);
                return;
            }
        }
    }

    private static void refusedForT(String why, int t, int code) {
        String at = "(" + t + ", ..), " + why;
        for (int r = -1; r <= 8; r++) {
            int row = r;
            refused("put" + at + ", row " + row, x -> x.put(t, row, 5), code);
            refused("add" + at + ", row " + row, x -> x.add(t, row, 5), code);
            refused("drop" + at + ", row " + row, x -> x.drop(t, row), code);
            refused("get" + at + ", row " + row, x -> x.get(t, row), NOTHING);
            refused("has" + at + ", row " + row, x -> bit(x.has(t, row)), NOTHING);
        }
        refused("count" + at, x -> x.count(t), code);
        refused("sum" + at, x -> x.sum(t), NOTHING);
        refused("find" + at, x -> x.find(t, 0, 0), code);
        refused("find from 8" + at, x -> x.find(t, 8, 0), code);
        refused("changed" + at, x -> x.changed(t), code);
        refused("save" + at, x -> x.save(t), code);
        refused("back" + at, x -> x.back(t), code);
        refused("commit" + at, x -> x.commit(t), code);
        refused("abort" + at, x -> x.abort(t), code);
    }

    private static void badTransactions() {
        for (int t : NO_TRANSACTIONS) {
            refusedForT("no transaction", t, BAD_ARG);
            refused("open(" + t + ")", x -> x.open(t), BAD_ARG);
        }
    }

    private static void closedTransactions() {
        refusedForT("not open", 3, CLOSED);
        for (int t = 0; t <= 2; t++) {
            int open = t;
            refused("open(" + t + "), open", x -> x.open(open), CLOSED);
        }
    }

    private static void badRows() {
        for (int t = 0; t <= 2; t++) {
            int open = t;
            for (int r : NO_ROWS) {
                String at = "(" + t + ", " + r + "), no row";
                refused("put" + at, x -> x.put(open, r, 5), BAD_ARG);
                refused("add" + at, x -> x.add(open, r, 5), BAD_ARG);
                refused("drop" + at, x -> x.drop(open, r), BAD_ARG);
                refused("get" + at, x -> x.get(open, r), NOTHING);
                refused("has" + at, x -> bit(x.has(open, r)), NOTHING);
            }
        }
        for (int r : NO_ROWS) {
            refused("committed(" + r + ")", x -> x.committed(r), NOTHING);
        }
    }

    private static void rowsNotThere() {
        notThere(0, 1, "dropped by itself");
        notThere(1, 6, "committed since");
        notThere(1, 7, "put by another");
        notThere(2, 7, "put by another");
        refused("find, no such value", x -> x.find(2, 0, 601), NONE);
        refused("find from 8", x -> x.find(2, 8, MIN), NONE);
        refused("find from the greatest int", x -> x.find(2, MAX, MIN), NONE);
        refused("back, no savepoint", x -> x.back(2), NONE);
    }

    private static void notThere(int t, int r, String why) {
        String at = "(" + t + ", " + r + "), " + why;
        refused("add" + at, x -> x.add(t, r, 5), NONE);
        refused("drop" + at, x -> x.drop(t, r), NONE);
        refused("get" + at, x -> x.get(t, r), NOTHING);
        refused("has" + at, x -> bit(x.has(t, r)), NOTHING);
    }

    private static void conflicts() {
        conflict(2, 0, BUSY, "put by another");
        conflict(2, 1, BUSY, "dropped by another");
        conflict(2, 3, BUSY, "added to by another");
        conflict(0, 4, BUSY, "put and added to by another");
        conflict(1, 3, BUSY, "stale too");
        conflict(1, 2, STALE, "put and committed since");
        refused("put(1, 7), not seen, put by another", x -> x.put(1, 7, 5), BUSY);
        refused("put(2, 7), not seen, put by another", x -> x.put(2, 7, 5), BUSY);
        refused("put(1, 6), not seen, committed since", x -> x.put(1, 6, 5), STALE);
    }

    private static void conflict(int t, int r, int code, String why) {
        String at = "(" + t + ", " + r + "), " + why;
        refused("put" + at, x -> x.put(t, r, 5), code);
        refused("add" + at, x -> x.add(t, r, 5), code);
        refused("add of 0" + at, x -> x.add(t, r, 0), code);
        refused("drop" + at, x -> x.drop(t, r), code);
    }

    private static void savepoints() {
        refused("save, a fourth", x -> x.save(1), FULL);
    }

    // The calls that only look change nothing either, whatever they answer.
    private static void looking() {
        List<Integer> plain = seenOn(start(), 0);
        for (int t = 0; t <= 3; t++) {
            MvccHeap x = start();
            for (int r = 0; r <= 7; r++) {
                x.find(t, r, 0);
                x.get(t, r);
                x.has(t, r);
                x.committed(r);
            }
            x.count(t);
            x.sum(t);
            x.changed(t);
            x.rows();
            if (!seenOn(x, 0).equals(plain)) {
                fail("a call by " + t + " that only looks changed something");
            }
        }
    }

    // ---- No call ever throws

    private static final int[] ANY = {MIN, MIN + 1, -33, -32, -8, -4, -1, 0, 1, 2, 3, 4, 5, 7, 8, 9, 31, 32, 33, MAX};
    private static final int[] VALUES = {MIN, -1, 0, 1, MAX};
    private static final int STATES = 6;
    private static final int CALLS = 18;

    private static MvccHeap state(int which) {
        MvccHeap x = which >= 2 ? start() : new MvccHeap();
        if (which == 1 || which == 3) {
            for (int t = 0; t <= 3; t++) {
                x.open(t);
            }
        }
        if (which == 4) {
            x.crash();
        }
        if (which == 5) {
            x.commit(0);
            x.abort(1);
            x.commit(2);
        }
        return x;
    }

    private static void anyCall(MvccHeap x, int call, int a, int b, int c) {
        switch (call) {
            case 0: x.open(a); break;
            case 1: x.put(a, b, c); break;
            case 2: x.add(a, b, c); break;
            case 3: x.drop(a, b); break;
            case 4: x.get(a, b); break;
            case 5: x.has(a, b); break;
            case 6: x.count(a); break;
            case 7: x.sum(a); break;
            case 8: x.find(a, b, c); break;
            case 9: x.changed(a); break;
            case 10: x.save(a); break;
            case 11: x.back(a); break;
            case 12: x.commit(a); break;
            case 13: x.abort(a); break;
            case 14: x.crash(); break;
            case 15: x.committed(a); break;
            case 16: x.rows(); break;
            default: x.vacuum(); x.flush(); break;
        }
    }

    private static void noCallThrows() {
        for (int which = 0; which < STATES; which++) {
            for (int call = 0; call < CALLS; call++) {
                for (int a : ANY) {
                    for (int b : ANY) {
                        for (int c : VALUES) {
                            callTwice(which, call, a, b, c);
                        }
                    }
                }
            }
        }
    }

    private static void callTwice(int which, int call, int a, int b, int c) {
        MvccHeap x = state(which);
        try {
            anyCall(x, call, a, b, c);
            anyCall(x, call, a, b, c);
        } catch (Throwable thrown) {
            fail("call " + call + " with " + a + ", " + b + ", " + c + " in state " + which + " threw " + thrown);
        }
    }

    public static void main(String[] args) {
        badTransactions();
        closedTransactions();
        badRows();
        rowsNotThere();
        conflicts();
        savepoints();
        looking();
        noCallThrows();
        System.out.println(wrong == 0 ? "all answers are as due" : wrong + " answers are not as due");
        if (wrong != 0) {
            System.exit(1);
        }
    }
}
