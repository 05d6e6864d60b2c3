// The sentences of "Terms" on BUSY and STALE, and those that tell the order of the codes where several would fit.
public final class ConflictsTest extends Sentences {
    private static void conflicts() {
        test("refused with BUSY if another open transaction has changed the row", ConflictsTest::busyForEachPair);
        test("BUSY: another one, not itself", ConflictsTest::neverBusyWithItself);
        test("BUSY: an open one, not one that has ended", ConflictsTest::notBusyWithAnEndedOne);
        test("BUSY: the row, not another row", ConflictsTest::notBusyAboutAnotherRow);
        test("BUSY: also by a change that opened later", ConflictsTest::busyWithOneThatOpenedLater);
        test("refused with STALE if a transaction that has committed since this one opened had changed the row",
            ConflictsTest::staleForEachPair);
        test("STALE: since this one opened, not before", ConflictsTest::notStaleByAnEarlierCommit);
        test("STALE: committed, not aborted", ConflictsTest::notStaleByAnAbort);
        test("STALE: by each of several commits", ConflictsTest::staleBySeveralCommits);
        test("STALE: by its commit, whenever it had opened", ConflictsTest::staleByOneThatOpenedEarlier);
        test("STALE: by a dropped row and by one put back as it was", ConflictsTest::staleByDropAndByPutBack);
        test("STALE: only put, add and drop are refused", ConflictsTest::aStaleTransactionReadsAndCommits);
    }

    private static void busyForEachPair() {
        for (int t = 0; t <= 3; t++) {
            for (int other = 0; other <= 3; other++) {
                if (t != other) {
                    MvccHeap x = heapWith(1, 2, 3);
                    x.open(t);
                    x.open(other);
                    x.put(other, 0, 9);
                    x.add(other, 1, 9);
                    x.drop(other, 2);
                    for (int r = 0; r <= 2; r++) {
                        String who = " of row " + r + " by " + t + ", changed by " + other;
                        due("put" + who, x.put(t, r, 5), BUSY);
                        due("add" + who, x.add(t, r, 5), BUSY);
                        due("drop" + who, x.drop(t, r), BUSY);
                        due("get" + who, x.get(t, r), r + 1);
                    }
                }
            }
        }
    }

    private static void neverBusyWithItself() {
        for (int t = 0; t <= 3; t++) {
            MvccHeap x = heapWith(1);
            x.open(t);
            due("put by " + t, x.put(t, 0, 5), 1);
            due("put again by " + t, x.put(t, 0, 6), 1);
            due("add by " + t, x.add(t, 0, 1), 0);
            due("drop by " + t, x.drop(t, 0), 0);
            due("put at last by " + t, x.put(t, 0, 8), 0);
        }
    }

    private static void notBusyWithAnEndedOne() {
        for (int way = BY_COMMIT; way <= BY_CRASH; way++) {
            MvccHeap x = heapWith(1, 2, 3);
            x.open(0);
            x.put(0, 0, 9);
            x.add(0, 1, 9);
            x.drop(0, 2);
            end(x, 0, way);
            x.open(1);
            due("put, way " + way, x.put(1, 0, 5), 1);
            due("add, way " + way, x.add(1, 1, 5), 0);
            due("put of the dropped row, way " + way, x.put(1, 2, 5), way == BY_COMMIT ? 0 : 1);
        }
    }

    private static void notBusyAboutAnotherRow() {
        for (int busy = 0; busy <= 7; busy++) {
            MvccHeap x = heapWith(1, 2, 3, 4, 5, 6, 7, 8);
            x.open(0);
            x.open(1);
            x.put(0, busy, 9);
            for (int r = 0; r <= 7; r++) {
                due("put of " + r + ", changed is " + busy, x.put(1, r, 5), r == busy ? BUSY : 1);
            }
        }
    }

    private static void busyWithOneThatOpenedLater() {
        MvccHeap x = heapWith(1);
        x.open(0);
        x.open(1);
        x.put(1, 0, 9);
        x.commit(1);
        x.open(1);
        x.put(1, 0, 10);
        due("put by the earlier one", x.put(0, 0, 5), BUSY);
        x.abort(1);
        due("put by the earlier one, then", x.put(0, 0, 5), STALE);
    }

    private static void staleForEachPair() {
        for (int t = 0; t <= 3; t++) {
            for (int other = 0; other <= 3; other++) {
                if (t != other) {
                    MvccHeap x = heapWith(1, 2, 3);
                    x.open(t);
                    x.open(other);
                    x.put(other, 0, 9);
                    x.add(other, 1, 9);
                    x.drop(other, 2);
                    x.commit(other);
                    for (int r = 0; r <= 2; r++) {
                        String who = " of row " + r + " by " + t + ", committed by " + other;
                        due("put" + who, x.put(t, r, 5), STALE);
                        due("add" + who, x.add(t, r, 5), STALE);
                        due("drop" + who, x.drop(t, r), STALE);
                        due("get" + who, x.get(t, r), r + 1);
                    }
                }
            }
        }
    }

    private static void notStaleByAnEarlierCommit() {
        MvccHeap x = heapWith(1, 2, 3);
        x.open(0);
        due("put just after the commit", x.put(0, 0, 5), 1);
        due("add just after the commit", x.add(0, 1, 5), 0);
        due("drop just after the commit", x.drop(0, 2), 0);
        x.commit(0);
        x.open(0);
        due("put under the same number", x.put(0, 0, 6), 1);
        due("put of the dropped row under the same number", x.put(0, 2, 6), 0);
    }

    private static void notStaleByAnAbort() {
        MvccHeap x = heapWith(1, 2, 3);
        x.open(0);
        x.open(1);
        x.put(0, 0, 9);
        x.add(0, 1, 9);
        x.drop(0, 2);
        x.abort(0);
        due("put", x.put(1, 0, 5), 1);
        due("add", x.add(1, 1, 5), 0);
        due("drop", x.drop(1, 2), 0);
    }

    private static void staleBySeveralCommits() {
        MvccHeap x = heapWith(1, 2, 3, 4);
        x.open(3);
        for (int t = 0; t <= 2; t++) {
            x.open(t);
            x.put(t, t, 9);
            x.commit(t);
        }
        for (int r = 0; r <= 2; r++) {
            due("put of row " + r, x.put(3, r, 5), STALE);
        }
        due("put of the row that nobody changed", x.put(3, 3, 5), 1);
        due("commit of a later one with no changes", x.open(0) + x.commit(0), 0);
        due("put of row 0 after it", x.put(3, 0, 5), STALE);
    }

    private static void staleByOneThatOpenedEarlier() {
        MvccHeap x = heapWith(1);
        x.open(0);
        x.put(0, 0, 9);
        x.open(1);
        due("put before the commit", x.put(1, 0, 5), BUSY);
        x.commit(0);
        due("put after the commit", x.put(1, 0, 5), STALE);
    }

    private static void staleByDropAndByPutBack() {
        MvccHeap x = heapWith(1, 2);
        x.open(0);
        x.open(1);
        x.drop(0, 0);
        x.drop(0, 1);
        x.put(0, 1, 2);
        x.put(0, 5, 1);
        x.drop(0, 5);
        x.commit(0);
        due("add of the row dropped since", x.add(1, 0, 1), STALE);
        due("drop of the row dropped since", x.drop(1, 0), STALE);
        due("put of the row put back", x.put(1, 1, 1), STALE);
        due("put of the row that came and went", x.put(1, 5, 1), STALE);
    }

    private static void aStaleTransactionReadsAndCommits() {
        MvccHeap x = heapWith(1, 2);
        x.open(0);
        x.open(1);
        x.put(1, 1, 20);
        x.put(0, 0, 10);
        x.commit(0);
        due("get", x.get(1, 0), 1);
        due("sum", x.sum(1), 21);
        due("save", x.save(1), 1);
        due("back", x.back(1), 0);
        due("commit", x.commit(1), 1);
        due("committed row of the other", x.committed(0), 10);
        due("committed row of its own", x.committed(1), 20);
    }

    private static void orderOfRefusals() {
        test("t not 0 to 3 answers BAD_ARG, then t not open answers CLOSED, before anything else",
            ConflictsTest::closedIsNextToBadT);
        test("for open: open answers CLOSED", ConflictsTest::openOfAnOpenOne);
        test("then a row not 0 to 7 answers BAD_ARG: before NONE", ConflictsTest::badRowBeforeNone);
        test("put: then (after t and r) BUSY, STALE", ConflictsTest::putBusyBeforeStale);
        test("add: then NONE; BUSY; STALE", () -> noneBusyStale(true));
        test("drop: then NONE; BUSY; STALE", () -> noneBusyStale(false));
        test("if t does not see the row there: t sees it though it is gone", ConflictsTest::seenThoughGone);
        test("save: CLOSED before FULL", ConflictsTest::closedBeforeFull);
        test("back: CLOSED before NONE", ConflictsTest::closedBeforeNoSavepoint);
        test("find: CLOSED before NONE", ConflictsTest::closedBeforeNothingFound);
    }

    private static void closedIsNextToBadT() {
        MvccHeap x = heapWith(1);
        for (int t : new int[] {-1, 4}) {
            due("put, bad row too", x.put(t, 8, 1), BAD_ARG);
            due("add, not there", x.add(t, 5, 1), BAD_ARG);
            due("drop, not there", x.drop(t, 5), BAD_ARG);
            due("find, nothing to find", x.find(t, 8, 1), BAD_ARG);
            due("back, no savepoint", x.back(t), BAD_ARG);
        }
        for (int t = 0; t <= 3; t++) {
            due("put, bad row", x.put(t, 8, 1), CLOSED);
            due("put, bad row below", x.put(t, -1, 1), CLOSED);
            due("add, bad row", x.add(t, 8, 1), CLOSED);
            due("add, bad row below", x.add(t, -1, 1), CLOSED);
            due("drop, bad row", x.drop(t, 8), CLOSED);
            due("drop, bad row below", x.drop(t, -1), CLOSED);
            due("add, not there", x.add(t, 5, 1), CLOSED);
            due("drop, not there", x.drop(t, 5), CLOSED);
        }
        x.open(0);
        x.put(0, 0, 9);
        due("put, CLOSED before BUSY", x.put(1, 0, 5), CLOSED);
        due("add, CLOSED before BUSY", x.add(1, 0, 5), CLOSED);
        due("drop, CLOSED before BUSY", x.drop(1, 0), CLOSED);
        x.open(1);
        x.commit(0);
        x.abort(1);
        due("put, CLOSED before STALE", x.put(1, 0, 5), CLOSED);
        due("add, CLOSED before STALE", x.add(1, 0, 5), CLOSED);
        due("drop, CLOSED before STALE", x.drop(1, 0), CLOSED);
    }

    private static void openOfAnOpenOne() {
        MvccHeap x = heapWith(1);
        for (int t = 0; t <= 3; t++) {
            due("open " + t, x.open(t), 0);
            due("open again " + t, x.open(t), CLOSED);
        }
        due("open -1, all others being open", x.open(-1), BAD_ARG);
        due("open 4, all others being open", x.open(4), BAD_ARG);
    }

    private static void badRowBeforeNone() {
        MvccHeap x = new MvccHeap();
        x.open(0);
        for (int r : new int[] {-1, 8, MIN, MAX}) {
            due("add " + r, x.add(0, r, 1), BAD_ARG);
            due("drop " + r, x.drop(0, r), BAD_ARG);
        }
        for (int r = 0; r <= 7; r++) {
            due("add " + r, x.add(0, r, 1), NONE);
            due("drop " + r, x.drop(0, r), NONE);
        }
    }

    // Row 0 is seen and row 1 is not; both have been committed since transaction 1 opened and changed again by 2.
    private static MvccHeap busyAndStale() {
        MvccHeap x = heapWith(1);
        x.open(1);
        x.open(0);
        x.put(0, 0, 5);
        x.put(0, 1, 5);
        x.commit(0);
        x.open(2);
        x.put(2, 0, 6);
        x.put(2, 1, 6);
        return x;
    }

    private static void putBusyBeforeStale() {
        MvccHeap x = busyAndStale();
        due("put, bad row", x.put(1, 8, 7), BAD_ARG);
        due("put of a row seen", x.put(1, 0, 7), BUSY);
        due("put of a row not seen", x.put(1, 1, 7), BUSY);
        x.abort(2);
        due("put of a row seen, then", x.put(1, 0, 7), STALE);
        due("put of a row not seen, then", x.put(1, 1, 7), STALE);
    }

    private static void noneBusyStale(boolean byAdd) {
        MvccHeap x = busyAndStale();
        due("bad row", addOrDrop(x, byAdd, 8), BAD_ARG);
        due("not seen, BUSY and STALE", addOrDrop(x, byAdd, 1), NONE);
        due("seen, BUSY and STALE", addOrDrop(x, byAdd, 0), BUSY);
        x.abort(2);
        due("not seen, STALE", addOrDrop(x, byAdd, 1), NONE);
        due("seen, STALE", addOrDrop(x, byAdd, 0), STALE);
        x.open(3);
        x.put(3, 5, 1);
        due("not seen, BUSY", addOrDrop(x, byAdd, 5), NONE);
        due("not seen by anyone", addOrDrop(x, byAdd, 6), NONE);
    }

    private static int addOrDrop(MvccHeap x, boolean byAdd, int r) {
        return byAdd ? x.add(1, r, 7) : x.drop(1, r);
    }

    private static void seenThoughGone() {
        MvccHeap x = heapWith(1, 2);
        x.open(0);
        x.open(1);
        x.drop(1, 0);
        due("add, dropped by another", x.add(0, 0, 1), BUSY);
        due("drop, dropped by another", x.drop(0, 0), BUSY);
        x.commit(1);
        due("add, the drop is committed", x.add(0, 0, 1), STALE);
        due("drop, the drop is committed", x.drop(0, 0), STALE);
        x.drop(0, 1);
        due("add, dropped by itself", x.add(0, 1, 1), NONE);
        due("drop, dropped by itself", x.drop(0, 1), NONE);
    }

    private static void closedBeforeFull() {
        for (int way = BY_COMMIT; way <= BY_CRASH; way++) {
            MvccHeap x = new MvccHeap();
            x.open(0);
            x.save(0);
            x.save(0);
            x.save(0);
            end(x, 0, way);
            due("save, way " + way, x.save(0), CLOSED);
            due("save by a bad t, way " + way, x.save(4), BAD_ARG);
        }
    }

    private static void closedBeforeNoSavepoint() {
        MvccHeap x = new MvccHeap();
        due("back, never opened", x.back(0), CLOSED);
        x.open(0);
        due("back, no savepoint", x.back(0), NONE);
        x.save(0);
        x.commit(0);
        due("back, a savepoint, but ended", x.back(0), CLOSED);
    }

    private static void closedBeforeNothingFound() {
        MvccHeap x = heapWith(1);
        due("find, nothing to find", x.find(0, 0, 2), CLOSED);
        due("find, from above 7", x.find(0, 8, 0), CLOSED);
        due("find, something to find", x.find(0, 0, 1), CLOSED);
        due("find by a bad t, from above 7", x.find(4, 8, 0), BAD_ARG);
    }

    public static void main(String[] args) {
        conflicts();
        orderOfRefusals();
        finish();
    }
}
