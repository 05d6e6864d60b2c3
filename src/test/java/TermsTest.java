import java.util.Random;

// The sentences of "Terms" that name a boundary case, but for BUSY, STALE and the order of the refusals.
public final class TermsTest extends Sentences {
    private static void terms() {
        test("An object is used for at most 512 calls", TermsTest::all512CallsAreAnswered);
        test("An object is used for at most 512 calls: one snapshot through all of them",
            TermsTest::aSnapshotLastsFor512Calls);
        test("ROWS are 0 to 7", TermsTest::rowsAre0To7);
        test("a row is THERE with a value (an int) or not", TermsTest::anyIntIsAValue);
        test("TRANSACTIONS are numbered 0 to 3", TermsTest::transactionsAre0To3);
        test("each is OPEN or not", TermsTest::eachIsOpenOrNot);
        test("The COMMITTED rows are at first: no row is there", TermsTest::noRowIsCommittedAtFirst);
        test("its SNAPSHOT is the committed rows at that moment", TermsTest::snapshotIsOfThatMoment);
        test("An open transaction SEES its snapshot with its own changes made in it", TermsTest::seesItsOwnChanges);
        test("one of its accepted calls of put, add or drop", TermsTest::refusedCallsAreNoChange);
        test("whether the value became another one or not", TermsTest::theSameValueIsAChange);
        test("one of its accepted calls: a row changed twice is changed once", TermsTest::changedTwiceIsChangedOnce);
    }

    private static void all512CallsAreAnswered() {
        MvccHeap x = new MvccHeap();
        x.open(0);
        x.put(0, 7, 0);
        x.commit(0);
        for (int i = 1; i <= 169; i++) {
            due("open, time " + i, x.open(i % 4), 0);
            due("add, time " + i, x.add(i % 4, 7, 1), 0);
            due("commit, time " + i, x.commit(i % 4), 1);
        }
        due("committed, call 511", x.committed(7), 169);
        due("rows, call 512", x.rows(), 1);
    }

    private static void aSnapshotLastsFor512Calls() {
        MvccHeap x = heapWith(5);
        x.open(3);
        for (int i = 1; i <= 168; i++) {
            x.open(0);
            x.add(0, 0, 1);
            x.commit(0);
        }
        due("get", x.get(3, 0), 5);
        due("add", x.add(3, 0, 1), STALE);
        due("committed", x.committed(0), 173);
        due("commit", x.commit(3), 0);
    }

    private static void rowsAre0To7() {
        MvccHeap x = new MvccHeap();
        x.open(0);
        due("put -1", x.put(0, -1, 1), BAD_ARG);
        due("put 8", x.put(0, 8, 1), BAD_ARG);
        for (int r = 0; r <= 7; r++) {
            due("put " + r, x.put(0, r, 100 + r), 0);
        }
        for (int r = 0; r <= 7; r++) {
            due("get " + r, x.get(0, r), 100 + r);
            due("add " + r, x.add(0, r, 1), 0);
            due("drop " + r, x.drop(0, r), 0);
            due("has " + r, x.has(0, r), false);
        }
    }

    private static void anyIntIsAValue() {
        int[] values = {MIN, MAX, 0, -1, -2, -3, -4, -5};
        MvccHeap x = heapWith(values);
        x.open(1);
        for (int r = 0; r <= 7; r++) {
            due("has " + r, x.has(1, r), true);
            due("get " + r, x.get(1, r), values[r]);
            due("committed " + r, x.committed(r), values[r]);
        }
    }

    private static void transactionsAre0To3() {
        MvccHeap x = new MvccHeap();
        due("open -1", x.open(-1), BAD_ARG);
        due("open 4", x.open(4), BAD_ARG);
        for (int t = 0; t <= 3; t++) {
            due("open " + t, x.open(t), 0);
            due("put by " + t, x.put(t, t, 10 + t), 0);
        }
        for (int t = 0; t <= 3; t++) {
            due("get by " + t, x.get(t, t), 10 + t);
            due("count by " + t, x.count(t), 1);
            due("changed by " + t, x.changed(t), 1 << t);
            due("commit by " + t, x.commit(t), 1);
        }
        due("rows", x.rows(), 4);
    }

    private static void eachIsOpenOrNot() {
        for (int set = 0; set < 16; set++) {
            MvccHeap x = new MvccHeap();
            for (int t = 0; t <= 3; t++) {
                if ((set >> t & 1) == 1) {
                    x.open(t);
                }
            }
            for (int t = 0; t <= 3; t++) {
                due("count by " + t + ", open are " + set, x.count(t), (set >> t & 1) == 1 ? 0 : CLOSED);
            }
            due("crash, open are " + set, x.crash(), Integer.bitCount(set));
        }
    }

    private static void noRowIsCommittedAtFirst() {
        MvccHeap x = new MvccHeap();
        due("rows", x.rows(), 0);
        for (int r = 0; r <= 7; r++) {
            due("committed " + r, x.committed(r), 0);
        }
        x.open(0);
        due("count", x.count(0), 0);
        for (int r = 0; r <= 7; r++) {
            due("has " + r, x.has(0, r), false);
        }
    }

    private static void snapshotIsOfThatMoment() {
        MvccHeap x = heapWith(1, 2, 3);
        x.open(0);
        x.put(0, 0, 10);
        x.drop(0, 1);
        x.put(0, 7, 70);
        x.open(1);
        x.commit(0);
        x.open(2);
        due("get of a row put, opened before the commit", x.get(1, 0), 1);
        due("get of a row dropped, opened before the commit", x.get(1, 1), 2);
        due("has of a new row, opened before the commit", x.has(1, 7), false);
        due("count, opened before the commit", x.count(1), 3);
        due("sum, opened before the commit", x.sum(1), 6);
        due("get of a row put, opened after the commit", x.get(2, 0), 10);
        due("has of a row dropped, opened after the commit", x.has(2, 1), false);
        due("get of a new row, opened after the commit", x.get(2, 7), 70);
        due("count, opened after the commit", x.count(2), 3);
        due("sum, opened after the commit", x.sum(2), 83);
    }

    private static void seesItsOwnChanges() {
        MvccHeap x = heapWith(1, 2, 3);
        x.open(0);
        x.open(1);
        x.put(0, 0, 10);
        x.add(1, 2, 30);
        x.drop(0, 1);
        x.commit(1);
        due("get of its own put", x.get(0, 0), 10);
        due("has of its own drop", x.has(0, 1), false);
        due("get of what another committed since", x.get(0, 2), 3);
        due("count", x.count(0), 2);
        due("sum", x.sum(0), 13);
        due("find", x.find(0, 1, 3), 2);
    }

    private static void refusedCallsAreNoChange() {
        MvccHeap x = heapWith(1, 2, 3);
        x.open(0);
        x.open(1);
        x.open(2);
        x.put(1, 0, 9);
        x.put(2, 1, 9);
        x.commit(2);
        due("put, BUSY", x.put(0, 0, 5), BUSY);
        due("add, BUSY", x.add(0, 0, 5), BUSY);
        due("drop, BUSY", x.drop(0, 0), BUSY);
        due("put, STALE", x.put(0, 1, 5), STALE);
        due("add, STALE", x.add(0, 1, 5), STALE);
        due("drop, STALE", x.drop(0, 1), STALE);
        due("add, NONE", x.add(0, 3, 5), NONE);
        due("drop, NONE", x.drop(0, 3), NONE);
        due("put, BAD_ARG", x.put(0, 8, 5), BAD_ARG);
        due("changed", x.changed(0), 0);
        due("put by another after the refused calls", x.put(1, 3, 5), 0);
        due("commit", x.commit(0), 0);
        due("put by another after that commit", x.put(1, 2, 5), 1);
    }

    private static void theSameValueIsAChange() {
        MvccHeap x = heapWith(4, 5, 6);
        x.open(0);
        x.open(1);
        due("put of the value that was there", x.put(0, 0, 4), 1);
        due("add of 0", x.add(0, 1, 0), 0);
        due("put of a new row", x.put(0, 3, 1), 0);
        due("drop of the new row", x.drop(0, 3), 0);
        due("changed", x.changed(0), 1 + 2 + 8);
        due("put by another about row 0", x.put(1, 0, 1), BUSY);
        due("put by another about row 1", x.put(1, 1, 1), BUSY);
        due("put by another about row 3", x.put(1, 3, 1), BUSY);
        due("commit", x.commit(0), 3);
        due("put by another about row 0, then", x.put(1, 0, 1), STALE);
        due("put by another about row 1, then", x.put(1, 1, 1), STALE);
        due("put by another about row 3, then", x.put(1, 3, 1), STALE);
        due("changed by the other", x.changed(1), 0);
    }

    private static void changedTwiceIsChangedOnce() {
        MvccHeap x = heapWith(4, 5, 6);
        x.open(0);
        x.put(0, 0, 1);
        x.put(0, 0, 2);
        x.add(0, 1, 1);
        x.add(0, 1, 2);
        x.drop(0, 2);
        x.put(0, 2, 1);
        x.drop(0, 2);
        due("changed", x.changed(0), 1 + 2 + 4);
        due("commit", x.commit(0), 3);
    }

    private static void ends() {
        test("COMMITTING makes the transaction's changed rows, as it sees them, the committed ones",
            TermsTest::onlyChangedRowsAreCommitted);
        test("COMMITTING .. and closes it", () -> endCloses(BY_COMMIT));
        test("ABORTING closes it", () -> endCloses(BY_ABORT));
        test("ABORTING .. without that", TermsTest::abortCommitsNothing);
        test("When the power fails, all open transactions are aborted", TermsTest::crashAbortsAll);
        test("When the power fails: what is committed lasts", TermsTest::crashKeepsTheCommitted);
        test("There are SAVEPOINTS in a transaction, at most 3 in a pile", TermsTest::threeSavepointsForEach);
        test("going back to the last one undoes all of the transaction's changes since then",
            TermsTest::backUndoesEachKind);
        test("going back undoes all of the changes: in each row, by each transaction", TermsTest::backInEachRow);
        test("the last one: the others stay, in their order", TermsTest::backTakesTheLastOne);
        test("since then: the changes before stay", TermsTest::backKeepsEarlierChanges);
        test("rows that it had not changed before count as not changed by it again",
            TermsTest::backFreesTheRows);
        test("going back undoes the transaction's changes, not those of others", TermsTest::backLeavesTheOthers);
        test("What the calls vacuum and flush do can't be seen by any other call", TermsTest::housekeepingIsUnseen);
    }

    private static void onlyChangedRowsAreCommitted() {
        MvccHeap x = heapWith(1, 2, 3, 4);
        x.open(0);
        x.open(1);
        x.put(1, 0, 10);
        x.drop(1, 1);
        x.put(1, 7, 70);
        x.commit(1);
        x.add(0, 2, 30);
        x.drop(0, 3);
        due("commit of the older one", x.commit(0), 2);
        due("committed 0", x.committed(0), 10);
        due("committed 1", x.committed(1), 0);
        due("committed 2", x.committed(2), 33);
        due("committed 3", x.committed(3), 0);
        due("committed 7", x.committed(7), 70);
        due("rows", x.rows(), 3);
    }

    private static void endCloses(int way) {
        for (int t = 0; t <= 3; t++) {
            MvccHeap x = heapWith(1);
            for (int each = 0; each <= 3; each++) {
                x.open(each);
            }
            x.put(t, 0, 5);
            end(x, t, way);
            for (int each = 0; each <= 3; each++) {
                due("count by " + each + " after the end of " + t, x.count(each), each == t ? CLOSED : 1);
            }
            due("crash after the end of " + t, x.crash(), 3);
        }
    }

    private static void abortCommitsNothing() {
        MvccHeap x = heapWith(1, 2, 3);
        x.open(0);
        x.put(0, 0, 10);
        x.add(0, 1, 10);
        x.drop(0, 2);
        x.put(0, 7, 10);
        due("abort", x.abort(0), 4);
        due("committed 0", x.committed(0), 1);
        due("committed 1", x.committed(1), 2);
        due("committed 2", x.committed(2), 3);
        due("committed 7", x.committed(7), 0);
        due("rows", x.rows(), 3);
    }

    private static void crashAbortsAll() {
        MvccHeap x = heapWith(1, 2, 3, 4);
        for (int t = 0; t <= 3; t++) {
            x.open(t);
            x.put(t, t, 10);
        }
        due("crash", x.crash(), 4);
        for (int t = 0; t <= 3; t++) {
            due("commit by " + t, x.commit(t), CLOSED);
            due("committed " + t, x.committed(t), t + 1);
        }
        x.open(0);
        for (int r = 0; r <= 3; r++) {
            due("put of " + r, x.put(0, r, 5), 1);
        }
    }

    private static void crashKeepsTheCommitted() {
        MvccHeap x = heapWith(1, MIN, MAX, 0);
        x.crash();
        due("rows", x.rows(), 4);
        due("committed 0", x.committed(0), 1);
        due("committed 1", x.committed(1), MIN);
        due("committed 2", x.committed(2), MAX);
        x.open(0);
        due("has a row of 0", x.has(0, 3), true);
        x.drop(0, 0);
        x.commit(0);
        x.crash();
        due("rows after a drop", x.rows(), 3);
    }

    private static void threeSavepointsForEach() {
        MvccHeap x = heapWith(0, 0, 0, 0);
        for (int t = 0; t <= 3; t++) {
            x.open(t);
        }
        for (int n = 1; n <= 3; n++) {
            for (int t = 0; t <= 3; t++) {
                due("save " + n + " by " + t, x.save(t), n);
                x.add(t, t, 1);
            }
        }
        for (int t = 0; t <= 3; t++) {
            due("save, one more, by " + t, x.save(t), FULL);
        }
        for (int left = 2; left >= 0; left--) {
            for (int t = 0; t <= 3; t++) {
                due("back by " + t, x.back(t), left);
                due("get by " + t, x.get(t, t), left);
            }
        }
        for (int t = 0; t <= 3; t++) {
            due("back, one more, by " + t, x.back(t), NONE);
        }
    }

    private static void backUndoesEachKind() {
        MvccHeap x = heapWith(1, 2, 3);
        x.open(0);
        x.save(0);
        x.put(0, 0, 10);
        x.add(0, 1, 10);
        x.drop(0, 2);
        x.put(0, 7, 10);
        x.put(0, 6, 10);
        x.drop(0, 6);
        x.drop(0, 0);
        x.put(0, 0, 11);
        due("back", x.back(0), 0);
        due("get of a row put", x.get(0, 0), 1);
        due("get of a row added to", x.get(0, 1), 2);
        due("get of a row dropped", x.get(0, 2), 3);
        due("has of a new row", x.has(0, 7), false);
        due("count", x.count(0), 3);
        due("sum", x.sum(0), 6);
        due("find", x.find(0, 0, 4), NONE);
        due("changed", x.changed(0), 0);
        due("commit", x.commit(0), 0);
        due("rows", x.rows(), 3);
    }

    private static void backInEachRow() {
        for (int t = 0; t <= 3; t++) {
            for (int kind = 0; kind < 3; kind++) {
                MvccHeap x = heapWith(1, 2, 3, 4, 5, 6, 7, 8);
                x.open(t);
                x.save(t);
                for (int r = 0; r <= 7; r++) {
                    due("change of row " + r + " by " + t, change(x, kind, t, r), kind == 0 ? 1 : 0);
                }
                due("back by " + t, x.back(t), 0);
                for (int r = 0; r <= 7; r++) {
                    due("get of row " + r + " by " + t, x.get(t, r), r + 1);
                }
                due("changed by " + t, x.changed(t), 0);
            }
        }
    }

    private static int change(MvccHeap x, int kind, int t, int r) {
        switch (kind) {
            case 0: return x.put(t, r, 50);
            case 1: return x.add(t, r, 50);
            default: return x.drop(t, r);
        }
    }

    private static void backTakesTheLastOne() {
        MvccHeap x = heapWith(0);
        x.open(0);
        x.save(0);
        x.put(0, 0, 1);
        x.save(0);
        x.put(0, 0, 2);
        x.save(0);
        x.put(0, 0, 3);
        due("back from 3", x.back(0), 2);
        due("get at the third", x.get(0, 0), 2);
        due("save anew", x.save(0), 3);
        x.put(0, 0, 4);
        due("back from 4", x.back(0), 2);
        due("get at the third, set anew", x.get(0, 0), 2);
        due("back from 2", x.back(0), 1);
        due("get at the second", x.get(0, 0), 1);
        x.drop(0, 0);
        due("back from the drop", x.back(0), 0);
        due("get at the first", x.get(0, 0), 0);
        due("has at the first", x.has(0, 0), true);
    }

    private static void backKeepsEarlierChanges() {
        MvccHeap x = heapWith(1, 2, 3);
        x.open(0);
        x.open(1);
        x.put(0, 0, 10);
        x.drop(0, 1);
        x.put(0, 7, 70);
        x.save(0);
        due("back with nothing to undo", x.back(0), 0);
        x.save(0);
        x.add(0, 0, 5);
        x.put(0, 1, 20);
        x.drop(0, 7);
        x.put(0, 2, 30);
        due("back", x.back(0), 0);
        due("get 0", x.get(0, 0), 10);
        due("has 1", x.has(0, 1), false);
        due("get 7", x.get(0, 7), 70);
        due("get 2", x.get(0, 2), 3);
        due("changed", x.changed(0), 1 + 2 + 128);
        due("put by another of a row changed before", x.put(1, 0, 5), BUSY);
        due("put by another of a row changed only since", x.put(1, 2, 5), 1);
        due("commit", x.commit(0), 3);
    }

    private static void backFreesTheRows() {
        MvccHeap x = heapWith(1, 2, 3);
        x.open(0);
        x.open(1);
        x.save(0);
        x.put(0, 0, 10);
        x.add(0, 1, 10);
        x.drop(0, 2);
        x.put(0, 3, 10);
        for (int r = 0; r <= 3; r++) {
            due("put by another before back, row " + r, x.put(1, r, 5), BUSY);
        }
        x.back(0);
        due("changed", x.changed(0), 0);
        for (int r = 0; r <= 3; r++) {
            due("put by another after back, row " + r, x.put(1, r, 5), r == 3 ? 0 : 1);
        }
        due("put of the freed row, changed by the other by now", x.put(0, 0, 6), BUSY);
        due("abort", x.abort(0), 0);
        x.open(2);
        x.open(3);
        x.abort(1);
        x.save(2);
        x.put(2, 0, 10);
        x.back(2);
        x.commit(2);
        due("put after the commit of an undone row", x.put(3, 0, 5), 1);
    }

    private static void backLeavesTheOthers() {
        MvccHeap x = heapWith(1, 2);
        x.open(0);
        x.open(1);
        x.save(0);
        x.save(1);
        x.put(1, 0, 10);
        x.put(0, 1, 20);
        x.back(0);
        due("get by the other", x.get(1, 0), 10);
        due("changed by the other", x.changed(1), 1);
        due("put of the other's row", x.put(0, 0, 5), BUSY);
        x.save(0);
        x.commit(1);
        x.back(0);
        due("get of the snapshot", x.get(0, 0), 1);
        due("put of the row committed since", x.put(0, 0, 5), STALE);
        due("committed", x.committed(0), 10);
    }

    // The same calls on two objects, one of which is kept by vacuum (kind 1), flush (2) or both (3) before each call.
    private static void housekeepingIsUnseen() {
        for (int run = 0; run < 300; run++) {
            int kind = run % 3 + 1;
            Random random = new Random(run);
            MvccHeap x = new MvccHeap();
            MvccHeap y = new MvccHeap();
            for (int i = 0; i < 170; i++) {
                if ((kind & 1) != 0) {
                    x.vacuum();
                }
                if ((kind & 2) != 0) {
                    x.flush();
                }
                int call = random.nextInt(20);
                int t = random.nextInt(4);
                int r = random.nextInt(4);
                due("call " + i + ", run " + run, anyCall(x, call, t, r, i), anyCall(y, call, t, r, i));
            }
        }
    }

    private static int anyCall(MvccHeap x, int call, int t, int r, int v) {
        switch (call) {
            case 0: case 1: return x.open(t);
            case 2: case 3: return x.put(t, r, v);
            case 4: return x.add(t, r, v);
            case 5: return x.drop(t, r);
            case 6: case 7: return x.get(t, r);
            case 8: return x.count(t);
            case 9: return x.sum(t);
            case 10: return x.find(t, r, v / 2);
            case 11: return x.changed(t);
            case 12: case 13: return x.save(t);
            case 14: return x.back(t);
            case 15: case 16: return x.commit(t);
            case 17: return x.committed(r);
            case 18: return x.rows();
            default: return v % 5 == 0 ? x.crash() : x.abort(t);
        }
    }

    public static void main(String[] args) {
        terms();
        ends();
        finish();
    }
}
