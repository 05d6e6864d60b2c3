// At least one group of calls for each promise of the document: ordinary inputs, its edges, and wrong inputs.
public final class PromisesTest {
    private static final int BAD_ARG = -1;
    private static final int CLOSED = -2;
    private static final int NONE = -3;
    private static final int BUSY = -4;
    private static final int STALE = -5;
    private static final int FULL = -6;
    private static final int MIN = Integer.MIN_VALUE;
    private static final int MAX = Integer.MAX_VALUE;
    private static final int[] NO_TRANSACTIONS = {-1, 4, 5, 32, MIN, MAX};
    private static final int[] NO_ROWS = {-1, 8, 9, 32, MIN, MAX};

    private static int wrong = 0;

    private static void due(String what, int got, int want) {
        if (got != want) {
            wrong++;
            System.out.println(what + " answered " + got + ", due is " + want);
        }
    }

    private static void due(String what, boolean got, boolean want) {
        if (got != want) {
            wrong++;
            System.out.println(what + " answered " + got + ", due is " + want);
        }
    }

    // Commits the rows from 0 on with these values.
    private static MvccHeap heapWith(int... values) {
        MvccHeap x = new MvccHeap();
        x.open(0);
        for (int r = 0; r < values.length; r++) {
            x.put(0, r, values[r]);
        }
        x.commit(0);
        return x;
    }

    private static void constants() {
        due("BAD_ARG", MvccHeap.BAD_ARG, BAD_ARG);
        due("CLOSED", MvccHeap.CLOSED, CLOSED);
        due("NONE", MvccHeap.NONE, NONE);
        due("BUSY", MvccHeap.BUSY, BUSY);
        due("STALE", MvccHeap.STALE, STALE);
        due("FULL", MvccHeap.FULL, FULL);
    }

    private static void promise1NewObject() {
        MvccHeap x = new MvccHeap();
        due("1: rows", x.rows(), 0);
        for (int r = 0; r < 8; r++) {
            due("1: committed " + r, x.committed(r), 0);
        }
        for (int t = 0; t < 4; t++) {
            due("1: count, t not open " + t, x.count(t), CLOSED);
        }
        due("1: crash", x.crash(), 0);
        for (int t = 0; t < 4; t++) {
            due("1: open " + t, x.open(t), 0);
            due("1: count " + t, x.count(t), 0);
        }
        MvccHeap y = heapWith(1);
        due("1: objects are apart", new MvccHeap().rows() + y.rows(), 1);
    }

    private static void promise2Open() {
        MvccHeap x = heapWith(5, 6);
        for (int t : NO_TRANSACTIONS) {
            due("2: open bad t " + t, x.open(t), BAD_ARG);
        }
        due("2: refused opens open nothing", x.crash(), 0);
        due("2: open", x.open(1), 0);
        x.put(1, 0, 50);
        x.save(1);
        due("2: open twice", x.open(1), CLOSED);
        due("2: the refused open keeps changes", x.get(1, 0), 50);
        due("2: the refused open keeps the changed set", x.changed(1), 1);
        due("2: the refused open keeps savepoints", x.back(1), 0);
        x.open(2);
        due("2: the snapshot has no open changes", x.get(2, 0), 5);
        x.commit(1);
        due("2: the snapshot stays", x.get(2, 0), 5);
        x.open(3);
        due("2: a later snapshot is the later rows", x.get(3, 0), 50);
        x.abort(2);
        due("2: open again", x.open(2), 0);
        due("2: the new snapshot", x.get(2, 0), 50);
    }

    private static void promise3Put() {
        MvccHeap x = new MvccHeap();
        due("3: closed before the row", x.put(0, 8, 1), CLOSED);
        x.open(0);
        for (int t : NO_TRANSACTIONS) {
            due("3: bad t " + t, x.put(t, 0, 1), BAD_ARG);
        }
        for (int r : NO_ROWS) {
            due("3: bad r " + r, x.put(0, r, 1), BAD_ARG);
        }
        due("3: refused puts change nothing", x.changed(0), 0);
        for (int r = 0; r < 8; r++) {
            due("3: put new " + r, x.put(0, r, r * 10), 0);
        }
        for (int r = 0; r < 8; r++) {
            due("3: the value " + r, x.get(0, r), r * 10);
            due("3: put again " + r, x.put(0, r, MIN), 1);
            due("3: the new value " + r, x.get(0, r), MIN);
        }
        x.drop(0, 4);
        due("3: put after drop", x.put(0, 4, 0), 0);
        due("3: a value of 0 is there", x.has(0, 4), true);
        x.open(1);
        due("3: BUSY with a row that t doesn't see", x.put(1, 2, 7), BUSY);
        due("3: BUSY changes nothing", x.changed(1), 0);
        due("3: BUSY puts nothing", x.has(1, 2), false);
        x.commit(0);
        due("3: STALE", x.put(1, 2, 7), STALE);
        due("3: STALE puts nothing", x.has(1, 2), false);
        due("3: STALE changes nothing", x.changed(1), 0);
    }

    private static void promise4Add() {
        MvccHeap x = heapWith(5, MAX, MIN, 0);
        due("4: closed before the row", x.add(1, 8, 1), CLOSED);
        x.open(1);
        for (int t : NO_TRANSACTIONS) {
            due("4: bad t " + t, x.add(t, 0, 1), BAD_ARG);
        }
        for (int r : NO_ROWS) {
            due("4: bad r " + r, x.add(1, r, 1), BAD_ARG);
        }
        due("4: NONE", x.add(1, 4, 1), NONE);
        due("4: refused adds change nothing", x.changed(1), 0);
        due("4: add", x.add(1, 0, -7), 0);
        due("4: the value", x.get(1, 0), -2);
        x.add(1, 0, 3);
        due("4: add goes on from t's own value", x.get(1, 0), 1);
        x.add(1, 1, 1);
        due("4: wraps up", x.get(1, 1), MIN);
        x.add(1, 2, -1);
        due("4: wraps down", x.get(1, 2), MAX);
        due("4: add 0", x.add(1, 3, 0), 0);
        due("4: add 0 counts as a change", x.changed(1), 15);
        x.open(2);
        x.put(1, 5, 1);
        due("4: NONE before BUSY", x.add(2, 5, 1), NONE);
        due("4: BUSY", x.add(2, 0, 1), BUSY);
        x.commit(1);
        due("4: NONE before STALE", x.add(2, 5, 1), NONE);
        due("4: STALE", x.add(2, 0, 1), STALE);
        due("4: the refused adds grow nothing", x.get(2, 0), 5);
        due("4: the refused adds change nothing", x.changed(2), 0);
    }

    private static void promise5Drop() {
        MvccHeap x = heapWith(5, 6, 7);
        due("5: closed before the row", x.drop(1, 8), CLOSED);
        x.open(1);
        for (int t : NO_TRANSACTIONS) {
            due("5: bad t " + t, x.drop(t, 0), BAD_ARG);
        }
        for (int r : NO_ROWS) {
            due("5: bad r " + r, x.drop(1, r), BAD_ARG);
        }
        due("5: NONE", x.drop(1, 3), NONE);
        due("5: refused drops change nothing", x.changed(1), 0);
        due("5: drop", x.drop(1, 0), 0);
        due("5: it is gone", x.has(1, 0), false);
        due("5: drop twice", x.drop(1, 0), NONE);
        due("5: it is changed", x.changed(1), 1);
        x.put(1, 3, 1);
        due("5: drop what t put", x.drop(1, 3), 0);
        due("5: put and dropped counts as a change", x.changed(1), 9);
        x.put(1, 3, 1);
        x.open(2);
        due("5: others see it", x.get(2, 0), 5);
        due("5: NONE before BUSY", x.drop(2, 3), NONE);
        due("5: BUSY", x.drop(2, 0), BUSY);
        x.commit(1);
        due("5: NONE before STALE", x.drop(2, 3), NONE);
        due("5: STALE", x.drop(2, 0), STALE);
        due("5: the refused drop", x.get(2, 0), 5);
        due("5: committed", x.committed(0), 0);
        due("5: rows", x.rows(), 3);
    }

    private static void promise6Get() {
        MvccHeap x = heapWith(5, MIN, -1);
        due("6: closed", x.get(1, 0), 0);
        x.open(1);
        for (int t : NO_TRANSACTIONS) {
            due("6: bad t " + t, x.get(t, 0), 0);
        }
        for (int r : NO_ROWS) {
            due("6: bad r " + r, x.get(1, r), 0);
        }
        due("6: get", x.get(1, 0), 5);
        due("6: a least value", x.get(1, 1), MIN);
        due("6: a value like a code", x.get(1, 2), -1);
        due("6: not there", x.get(1, 3), 0);
        x.drop(1, 0);
        due("6: dropped", x.get(1, 0), 0);
        due("6: get is no change", x.changed(1), 1);
    }

    private static void promise7Has() {
        MvccHeap x = heapWith(0, 6);
        due("7: closed", x.has(1, 0), false);
        x.open(1);
        for (int t : NO_TRANSACTIONS) {
            due("7: bad t " + t, x.has(t, 0), false);
        }
        for (int r : NO_ROWS) {
            due("7: bad r " + r, x.has(1, r), false);
        }
        due("7: has", x.has(1, 0), true);
        due("7: not there", x.has(1, 2), false);
        x.put(1, 7, 0);
        due("7: its own row", x.has(1, 7), true);
        x.open(2);
        due("7: another's row", x.has(2, 7), false);
        x.drop(1, 0);
        due("7: dropped", x.has(1, 0), false);
        due("7: dropped by another", x.has(2, 0), true);
    }

    private static void promise8Count() {
        MvccHeap x = heapWith(0, 6, 7);
        due("8: closed", x.count(1), CLOSED);
        for (int t : NO_TRANSACTIONS) {
            due("8: bad t " + t, x.count(t), BAD_ARG);
        }
        x.open(1);
        x.open(2);
        due("8: count", x.count(1), 3);
        x.put(1, 7, 1);
        x.put(1, 0, 1);
        due("8: count with its own", x.count(1), 4);
        x.drop(1, 1);
        x.drop(1, 2);
        due("8: count without the dropped", x.count(1), 2);
        due("8: count of another", x.count(2), 3);
        for (int r = 0; r < 8; r++) {
            x.put(1, r, r);
        }
        due("8: all rows", x.count(1), 8);
    }

    private static void promise9Sum() {
        MvccHeap x = heapWith(MAX, 1, -10);
        due("9: closed", x.sum(1), 0);
        for (int t : NO_TRANSACTIONS) {
            due("9: bad t " + t, x.sum(t), 0);
        }
        x.open(1);
        x.open(2);
        due("9: wraps on the way", x.sum(1), MAX - 9);
        x.drop(1, 2);
        due("9: wraps", x.sum(1), MIN);
        x.drop(1, 0);
        due("9: without the dropped", x.sum(1), 1);
        x.put(1, 7, 41);
        due("9: with its own", x.sum(1), 42);
        due("9: of another", x.sum(2), MAX - 9);
        x.drop(1, 7);
        x.drop(1, 1);
        due("9: of no rows", x.sum(1), 0);
    }

    private static void promise10Find() {
        MvccHeap x = heapWith(5, -3, 9, 9, MIN, MAX);
        due("10: closed", x.find(1, 0, 0), CLOSED);
        for (int t : NO_TRANSACTIONS) {
            due("10: bad t " + t, x.find(t, 0, 0), BAD_ARG);
        }
        x.open(1);
        due("10: the least row", x.find(1, 0, 5), 0);
        due("10: a greater value", x.find(1, 0, 6), 2);
        due("10: from itself", x.find(1, 2, 9), 2);
        due("10: from a later one", x.find(1, 3, 9), 3);
        due("10: the greatest value", x.find(1, 0, MAX), 5);
        due("10: the least value", x.find(1, 4, MIN), 4);
        due("10: rows not there", x.find(1, 6, MIN), NONE);
        x.drop(1, 2);
        due("10: dropped", x.find(1, 1, 9), 3);
        x.drop(1, 5);
        due("10: no such value", x.find(1, 0, 10), NONE);
        x.put(1, 7, 10);
        due("10: the last row", x.find(1, 7, 10), 7);
        due("10: its own row", x.find(1, 0, 10), 7);
        x.open(2);
        due("10: another's row", x.find(2, 6, 10), NONE);
        x.put(2, 6, 0);
        due("10: a row not there is no 0", x.find(1, 6, 0), 7);
    }

    private static void promise11Changed() {
        MvccHeap x = heapWith(1, 2, 3);
        due("11: closed", x.changed(1), CLOSED);
        for (int t : NO_TRANSACTIONS) {
            due("11: bad t " + t, x.changed(t), BAD_ARG);
        }
        x.open(1);
        x.open(2);
        due("11: nothing", x.changed(1), 0);
        x.put(1, 0, 1);
        due("11: put of the same value", x.changed(1), 1);
        x.add(1, 1, 0);
        due("11: add of 0", x.changed(1), 3);
        x.drop(1, 2);
        due("11: drop", x.changed(1), 7);
        x.put(1, 7, 0);
        due("11: the last row", x.changed(1), 135);
        x.put(1, 7, 1);
        due("11: a row counts once", x.changed(1), 135);
        due("11: another", x.changed(2), 0);
        for (int r = 0; r < 8; r++) {
            x.put(1, r, r);
        }
        due("11: all rows", x.changed(1), 255);
    }

    private static void promise12Save() {
        MvccHeap x = heapWith(1);
        due("12: closed", x.save(1), CLOSED);
        for (int t : NO_TRANSACTIONS) {
            due("12: bad t " + t, x.save(t), BAD_ARG);
        }
        x.open(1);
        x.open(2);
        due("12: first", x.save(1), 1);
        due("12: second", x.save(1), 2);
        due("12: each has its own", x.save(2), 1);
        due("12: third", x.save(1), 3);
        x.put(1, 0, 9);
        due("12: fourth", x.save(1), FULL);
        due("12: fifth", x.save(1), FULL);
        due("12: FULL saves nothing", x.back(1), 2);
        due("12: FULL left the third as it was", x.get(1, 0), 1);
        due("12: room again", x.save(1), 3);
        due("12: the other's", x.back(2), 0);
    }

    private static void promise13Back() {
        MvccHeap x = heapWith(1, 2, 3);
        due("13: closed", x.back(1), CLOSED);
        for (int t : NO_TRANSACTIONS) {
            due("13: bad t " + t, x.back(t), BAD_ARG);
        }
        x.open(1);
        due("13: none", x.back(1), NONE);
        x.put(1, 0, 10);
        x.save(1);
        x.add(1, 0, 1);
        x.drop(1, 1);
        x.save(1);
        x.put(1, 1, 20);
        x.put(1, 7, 70);
        due("13: one left", x.back(1), 1);
        due("13: a row put again", x.has(1, 1), false);
        due("13: a row put", x.has(1, 7), false);
        due("13: a row of the first", x.get(1, 0), 11);
        due("13: changed", x.changed(1), 3);
        due("13: none left", x.back(1), 0);
        due("13: a value", x.get(1, 0), 10);
        due("13: a dropped row", x.get(1, 1), 2);
        due("13: changed before stays", x.changed(1), 1);
        due("13: none any more", x.back(1), NONE);
        due("13: NONE changes nothing", x.get(1, 0), 10);
        due("13: commit counts what is left", x.commit(1), 1);
        due("13: an undone row", x.committed(1), 2);
    }

    private static void promise13BackAndOthers() {
        MvccHeap x = heapWith(1, 2);
        x.open(1);
        x.open(2);
        x.save(1);
        x.put(1, 0, 9);
        due("13: BUSY before back", x.put(2, 0, 8), BUSY);
        x.back(1);
        due("13: free after back", x.put(2, 0, 8), 1);
        due("13: BUSY now for the first", x.put(1, 0, 7), BUSY);
        x.save(1);
        x.put(1, 1, 5);
        x.commit(2);
        x.back(1);
        due("13: back keeps the snapshot", x.get(1, 0), 1);
        due("13: back keeps STALE", x.put(1, 0, 7), STALE);
        x.open(3);
        x.save(1);
        x.put(1, 1, 6);
        x.back(1);
        x.commit(1);
        due("13: an undone row makes nothing STALE", x.put(3, 1, 4), 1);
        due("13: an undone row is not committed", x.committed(1), 2);
    }

    private static void promise14Commit() {
        MvccHeap x = heapWith(1, 2, 3, 4);
        due("14: closed", x.commit(1), CLOSED);
        for (int t : NO_TRANSACTIONS) {
            due("14: bad t " + t, x.commit(t), BAD_ARG);
        }
        x.open(1);
        x.open(2);
        x.put(1, 0, 10);
        x.put(1, 0, 11);
        x.drop(1, 1);
        x.put(1, 6, 60);
        x.drop(1, 6);
        x.add(2, 2, 30);
        due("14: before", x.committed(0), 1);
        due("14: commit", x.commit(1), 3);
        due("14: it is closed", x.commit(1), CLOSED);
        due("14: a row put", x.committed(0), 11);
        due("14: a row dropped", x.rows(), 3);
        due("14: the other commits", x.commit(2), 1);
        due("14: only its changed rows", x.committed(0), 11);
        due("14: its row", x.committed(2), 33);
        due("14: the dropped one stays away", x.rows(), 3);
        x.open(3);
        due("14: commit of nothing", x.commit(3), 0);
        x.open(3);
        x.put(3, 0, 11);
        x.open(2);
        x.commit(3);
        due("14: the same value makes STALE", x.put(2, 0, 1), STALE);
        due("14: others aren't stale", x.put(2, 2, 1), 1);
        x.open(3);
        x.put(3, 3, 9);
        x.commit(3);
        due("14: a later commit makes STALE", x.put(2, 3, 1), STALE);
        due("14: the earlier one still does", x.put(2, 0, 1), STALE);
    }

    private static void promise15Abort() {
        MvccHeap x = heapWith(1, 2);
        due("15: closed", x.abort(1), CLOSED);
        for (int t : NO_TRANSACTIONS) {
            due("15: bad t " + t, x.abort(t), BAD_ARG);
        }
        x.open(1);
        x.open(2);
        x.put(1, 0, 10);
        x.add(1, 0, 10);
        x.drop(1, 1);
        x.put(1, 2, 10);
        due("15: abort", x.abort(1), 3);
        due("15: it is closed", x.abort(1), CLOSED);
        due("15: committed", x.committed(0), 1);
        due("15: rows", x.rows(), 2);
        due("15: neither BUSY nor STALE", x.put(2, 0, 5), 1);
        x.save(2);
        x.put(2, 1, 5);
        x.back(2);
        due("15: counts what is left", x.abort(2), 1);
        x.open(3);
        due("15: abort of nothing", x.abort(3), 0);
    }

    private static void promise16Crash() {
        MvccHeap x = heapWith(1, 2);
        due("16: none open", x.crash(), 0);
        for (int t = 0; t < 4; t++) {
            x.open(t);
        }
        x.put(0, 0, 10);
        x.drop(1, 1);
        x.put(2, 2, 10);
        due("16: all open", x.crash(), 4);
        due("16: none open any more", x.crash(), 0);
        for (int t = 0; t < 4; t++) {
            due("16: closed " + t, x.changed(t), CLOSED);
        }
        due("16: a put", x.committed(0), 1);
        due("16: a drop", x.committed(1), 2);
        due("16: rows", x.rows(), 2);
        x.open(3);
        due("16: neither BUSY nor STALE", x.put(3, 0, 5), 1);
        x.commit(3);
        x.open(1);
        due("16: one open", x.crash(), 1);
        due("16: what is committed lasts", x.committed(0), 5);
    }

    private static void promise17Committed() {
        MvccHeap x = heapWith(-1, MIN, 7);
        for (int r : NO_ROWS) {
            due("17: bad r " + r, x.committed(r), 0);
        }
        due("17: a value like a code", x.committed(0), -1);
        due("17: a least value", x.committed(1), MIN);
        due("17: not there", x.committed(3), 0);
        x.open(1);
        x.put(1, 0, 5);
        x.put(1, 3, 5);
        x.drop(1, 2);
        due("17: open changes", x.committed(0), -1);
        due("17: an open put", x.committed(3), 0);
        due("17: an open drop", x.committed(2), 7);
        x.commit(1);
        due("17: changed", x.committed(0), 5);
        due("17: put", x.committed(3), 5);
        due("17: dropped", x.committed(2), 0);
    }

    private static void promise18Rows() {
        MvccHeap x = heapWith(0, 0, 0);
        due("18: rows of 0", x.rows(), 3);
        x.open(1);
        x.put(1, 7, 1);
        x.drop(1, 0);
        x.drop(1, 1);
        due("18: open changes", x.rows(), 3);
        x.commit(1);
        due("18: committed", x.rows(), 2);
        due("18: all", heapWith(1, 2, 3, 4, 5, 6, 7, 8).rows(), 8);
    }

    private static void promises19And20Housekeeping() {
        MvccHeap x = heapWith(1, 2, 3);
        housekeep(x);
        x.open(1);
        x.open(2);
        x.open(3);
        x.put(1, 0, 10);
        x.save(1);
        x.drop(1, 1);
        x.add(2, 2, 30);
        x.commit(2);
        housekeep(x);
        due("19: count", x.count(1), 2);
        due("19: a snapshot", x.get(3, 2), 3);
        due("19: BUSY", x.put(3, 0, 1), BUSY);
        due("19: STALE", x.put(3, 2, 1), STALE);
        due("19: changed", x.changed(1), 3);
        due("19: committed", x.committed(2), 33);
        due("19: closed", x.count(2), CLOSED);
        due("19: back", x.back(1), 0);
        due("19: undone", x.get(1, 1), 2);
        housekeep(x);
        due("20: crash", x.crash(), 2);
        housekeep(x);
        due("20: flush commits nothing", x.committed(0), 1);
        due("20: rows", x.rows(), 3);
        due("20: crash again", x.crash(), 0);
    }

    private static void housekeep(MvccHeap x) {
        x.vacuum();
        x.flush();
    }

    private static void promise21Find() {
        MvccHeap x = heapWith(5, 6, 7, 8, 9, 10, 11, 12);
        x.open(1);
        due("21: from -1", x.find(1, -1, 0), 0);
        due("21: from the least int", x.find(1, MIN, 6), 1);
        due("21: from 7", x.find(1, 7, 0), 7);
        due("21: from 8", x.find(1, 8, MIN), NONE);
        due("21: from 32", x.find(1, 32, MIN), NONE);
        due("21: from the greatest int", x.find(1, MAX, MIN), NONE);
        due("21: t before from", x.find(4, 8, 0), BAD_ARG);
        due("21: CLOSED before from", x.find(2, 8, 0), CLOSED);
    }

    private static void promise21OpensAnew() {
        for (int way = 0; way < 3; way++) {
            MvccHeap x = heapWith(1, 2);
            x.open(1);
            x.open(2);
            x.put(2, 0, 5);
            x.commit(2);
            x.save(1);
            x.put(1, 1, 9);
            x.put(1, 2, 9);
            x.save(1);
            x.save(1);
            if (way == 0) {
                x.commit(1);
            } else if (way == 1) {
                x.abort(1);
            } else {
                x.crash();
            }
            due("21: open again, way " + way, x.open(1), 0);
            due("21: no row changed, way " + way, x.changed(1), 0);
            due("21: no savepoint, way " + way, x.back(1), NONE);
            due("21: the new snapshot, way " + way, x.sum(1), way == 0 ? 23 : 7);
            due("21: neither BUSY nor STALE, way " + way, x.put(1, 0, 1), 1);
            due("21: nor with its own row, way " + way, x.put(1, 1, 1), 1);
            due("21: room for savepoints, way " + way, x.save(1), 1);
        }
    }

    private static void refusalsInOrder() {
        MvccHeap x = heapWith(1, 2);
        due("order: t before closed and row", x.put(4, 8, 0), BAD_ARG);
        x.open(1);
        x.open(2);
        x.open(3);
        x.put(2, 0, 5);
        x.commit(2);
        x.open(2);
        x.put(2, 0, 6);
        due("order: BUSY before STALE in put", x.put(1, 0, 0), BUSY);
        due("order: BUSY before STALE in add", x.add(1, 0, 0), BUSY);
        due("order: BUSY before STALE in drop", x.drop(1, 0), BUSY);
        x.abort(2);
        due("order: STALE in put", x.put(1, 0, 0), STALE);
        due("order: STALE in add", x.add(1, 0, 0), STALE);
        due("order: STALE in drop", x.drop(1, 0), STALE);
        x.put(1, 1, 3);
        due("order: a lower number is BUSY too", x.put(3, 1, 0), BUSY);
        due("order: t itself is not BUSY", x.put(1, 1, 4), 1);
    }

    public static void main(String[] args) {
        constants();
        promise1NewObject();
        promise2Open();
        promise3Put();
        promise4Add();
        promise5Drop();
        promise6Get();
        promise7Has();
        promise8Count();
        promise9Sum();
        promise10Find();
        promise11Changed();
        promise12Save();
        promise13Back();
        promise13BackAndOthers();
        promise14Commit();
        promise15Abort();
        promise16Crash();
        promise17Committed();
        promise18Rows();
        promises19And20Housekeeping();
        promise21Find();
        promise21OpensAnew();
        refusalsInOrder();
        System.out.println(wrong == 0 ? "all answers are as due" : wrong + " answers are not as due");
        if (wrong != 0) {
            System.exit(1);
        }
    }
}
