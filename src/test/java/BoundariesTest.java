// The sentences of the promises 1 to 21 that name a boundary case. RefusalsTest has the refused calls one by one.
public final class BoundariesTest extends Sentences {
    private static void promises1To11() {
        test("Promise 1: No row is there, no transaction is open", BoundariesTest::aNewObject);
        test("Promise 2: Transaction t opens. Answers 0", BoundariesTest::opensAgainAfterEachEnd);
        test("Promise 3: 1 if t saw it there before, else 0", BoundariesTest::putAnswersWhetherItWasThere);
        test("Promise 4: grows by d (wrapping)", BoundariesTest::addWraps);
        test("Promise 4: The value that t sees", BoundariesTest::addStartsFromWhatTSees);
        test("Promise 5: Row r is no longer there", BoundariesTest::dropOfTheOnlyRowAndOfAll);
        test("Promise 6: 0 if it does not see it there", BoundariesTest::getOfARowNotThere);
        test("Promise 6: 0 if .. t or r is refused", BoundariesTest::getRefused);
        test("Promise 7: Whether t sees row r there", BoundariesTest::hasOfARowOf0);
        test("Promise 7: false if t or r is refused", BoundariesTest::hasRefused);
        test("Promise 8: How many rows t sees there", BoundariesTest::countFrom0To8);
        test("Promise 8: t refused answers the code", BoundariesTest::countRefused);
        test("Promise 9: The sum, wrapping", BoundariesTest::sumWraps);
        test("Promise 9: of the rows that t sees there", BoundariesTest::sumOfNoRows);
        test("Promise 9: 0 if t is refused", BoundariesTest::sumRefused);
        test("Promise 10: The least row, from or greater", BoundariesTest::findFromEachRow);
        test("Promise 10: with a value of at least v", BoundariesTest::findComparesAnyTwoInts);
        test("Promise 10: NONE if there is none", BoundariesTest::findNone);
        test("Promise 11: the sum of 2 to the power r", BoundariesTest::changedOfEachRow);
        test("Promise 11: t refused answers the code", BoundariesTest::changedRefused);
    }

    private static void aNewObject() {
        MvccHeap x = new MvccHeap();
        due("rows", x.rows(), 0);
        due("crash", x.crash(), 0);
        for (int t = 0; t <= 3; t++) {
            due("commit by " + t, x.commit(t), CLOSED);
        }
        MvccHeap y = heapWith(1, 2);
        y.open(3);
        due("rows of a new object beside another", new MvccHeap().rows(), 0);
        due("crash of a new object beside another", new MvccHeap().crash(), 0);
        due("rows of the other", y.rows(), 2);
    }

    private static void opensAgainAfterEachEnd() {
        for (int way = BY_COMMIT; way <= BY_CRASH; way++) {
            for (int t = 0; t <= 3; t++) {
                MvccHeap x = new MvccHeap();
                due("open " + t, x.open(t), 0);
                due("open while open " + t, x.open(t), CLOSED);
                end(x, t, way);
                due("open again " + t + ", way " + way, x.open(t), 0);
                due("crash, only " + t + " is open", x.crash(), 1);
            }
        }
    }

    private static void putAnswersWhetherItWasThere() {
        MvccHeap x = heapWith(0);
        x.open(0);
        x.open(1);
        due("put of a row there with the value 0", x.put(0, 0, 0), 1);
        due("put of a row not there", x.put(0, 7, 0), 0);
        due("put of the row just put", x.put(0, 7, 0), 1);
        x.drop(0, 7);
        due("put of the row just dropped", x.put(0, 7, 0), 0);
        x.save(1);
        x.put(1, 3, 1);
        x.back(1);
        due("put of the row undone", x.put(1, 3, 1), 0);
        for (int v : new int[] {MIN, MAX, -1, 0}) {
            due("put of " + v, x.put(1, 3, v), 1);
            due("get of " + v, x.get(1, 3), v);
        }
    }

    private static void addWraps() {
        int[][] sums = {{MAX, 1, MIN}, {MIN, -1, MAX}, {MAX, MAX, -2}, {MIN, MIN, 0}, {1, MAX, MIN}, {-1, MIN, MAX},
            {MAX, MIN, -1}, {MIN, MAX, -1}, {0, MIN, MIN}, {5, -5, 0}};
        for (int[] each : sums) {
            MvccHeap x = heapWith(each[0]);
            x.open(1);
            due("add of " + each[1], x.add(1, 0, each[1]), 0);
            due("get of " + each[0] + " + " + each[1], x.get(1, 0), each[2]);
            due("has", x.has(1, 0), true);
            x.commit(1);
            due("committed", x.committed(0), each[2]);
        }
    }

    private static void addStartsFromWhatTSees() {
        MvccHeap x = heapWith(1);
        x.open(0);
        x.add(0, 0, 1);
        x.add(0, 0, 1);
        due("get after two", x.get(0, 0), 3);
        x.put(0, 0, 10);
        x.add(0, 0, 1);
        due("get after put", x.get(0, 0), 11);
        due("committed", x.committed(0), 1);
        x.drop(0, 0);
        x.put(0, 0, 20);
        x.add(0, 0, 1);
        due("get after drop and put", x.get(0, 0), 21);
    }

    private static void dropOfTheOnlyRowAndOfAll() {
        MvccHeap x = heapWith(1, 2, 3, 4, 5, 6, 7, 8);
        x.open(0);
        for (int r = 7; r >= 0; r--) {
            due("drop " + r, x.drop(0, r), 0);
            due("drop again " + r, x.drop(0, r), NONE);
            due("count after " + r, x.count(0), r);
        }
        due("commit", x.commit(0), 8);
        due("rows", x.rows(), 0);
        x.open(0);
        due("drop of a row dropped and committed", x.drop(0, 0), NONE);
    }

    private static void getOfARowNotThere() {
        MvccHeap x = heapWith(5, 6);
        x.open(0);
        x.open(1);
        due("get, never there", x.get(0, 7), 0);
        x.put(1, 7, 9);
        due("get, put by another", x.get(0, 7), 0);
        x.drop(0, 0);
        due("get, dropped by itself", x.get(0, 0), 0);
        x.commit(1);
        due("get, committed since", x.get(0, 7), 0);
        x.commit(0);
        x.open(2);
        due("get, the drop is committed", x.get(2, 0), 0);
    }

    private static void getRefused() {
        MvccHeap x = heapWith(1, 2, 3, 4, 5, 6, 7, 8);
        due("get, t not open", x.get(0, 0), 0);
        x.open(0);
        x.open(3);
        for (int t : new int[] {MIN, -1, 4, MAX}) {
            due("get, t is " + t, x.get(t, 0), 0);
        }
        for (int r : new int[] {MIN, -1, 8, MAX}) {
            due("get by 0, r is " + r, x.get(0, r), 0);
            due("get by 3, r is " + r, x.get(3, r), 0);
        }
        x.commit(0);
        due("get, t has ended", x.get(0, 0), 0);
    }

    private static void hasRefused() {
        MvccHeap x = heapWith(1, 2, 3, 4, 5, 6, 7, 8);
        due("has, t not open", x.has(0, 0), false);
        x.open(0);
        x.open(3);
        for (int t : new int[] {MIN, -1, 4, MAX}) {
            due("has, t is " + t, x.has(t, 0), false);
        }
        for (int r : new int[] {MIN, -1, 8, 32, MAX}) {
            due("has by 0, r is " + r, x.has(0, r), false);
            due("has by 3, r is " + r, x.has(3, r), false);
        }
        x.commit(0);
        due("has, t has ended", x.has(0, 0), false);
    }

    private static void countRefused() {
        MvccHeap x = heapWith(1, 2);
        due("count, t not open", x.count(0), CLOSED);
        x.open(0);
        for (int t : new int[] {MIN, -1, 4, MAX}) {
            due("count, t is " + t, x.count(t), BAD_ARG);
        }
        x.commit(0);
        due("count, t has ended", x.count(0), CLOSED);
    }

    private static void sumRefused() {
        MvccHeap x = heapWith(1, 2);
        due("sum, t not open", x.sum(0), 0);
        x.open(0);
        for (int t : new int[] {MIN, -1, 4, MAX}) {
            due("sum, t is " + t, x.sum(t), 0);
        }
        x.commit(0);
        due("sum, t has ended", x.sum(0), 0);
    }

    private static void changedRefused() {
        MvccHeap x = heapWith(1, 2);
        due("changed, t not open", x.changed(0), CLOSED);
        x.open(0);
        x.put(0, 0, 9);
        for (int t : new int[] {MIN, -1, 4, MAX}) {
            due("changed, t is " + t, x.changed(t), BAD_ARG);
        }
        x.commit(0);
        due("changed, t has ended", x.changed(0), CLOSED);
    }

    private static void hasOfARowOf0() {
        MvccHeap x = heapWith(0);
        x.open(0);
        due("has a row of 0", x.has(0, 0), true);
        due("has a row never there", x.has(0, 1), false);
        x.add(0, 0, 5);
        x.add(0, 0, -5);
        due("has a row that became 0", x.has(0, 0), true);
        x.drop(0, 0);
        due("has a row dropped", x.has(0, 0), false);
    }

    private static void countFrom0To8() {
        MvccHeap x = new MvccHeap();
        x.open(0);
        due("count of none", x.count(0), 0);
        for (int r = 0; r <= 7; r++) {
            x.put(0, r, 0);
            due("count with row " + r, x.count(0), r + 1);
        }
        x.put(0, 7, 1);
        due("count after a row put twice", x.count(0), 8);
    }

    private static void sumWraps() {
        int[][] rows = {{MAX, 1}, {MIN, -1}, {MAX, MAX}, {MIN, MIN}, {MAX, MIN},
            {MIN, MIN, MIN, MIN, MIN, MIN, MIN, MIN}, {MAX, MAX, MAX, MAX, MAX, MAX, MAX, MAX}, {MIN, MIN, MIN}};
        int[] sums = {MIN, MAX, -2, 0, -1, 0, -8, MIN};
        for (int i = 0; i < rows.length; i++) {
            MvccHeap x = heapWith(rows[i]);
            x.open(0);
            due("sum, case " + i, x.sum(0), sums[i]);
        }
    }

    private static void sumOfNoRows() {
        MvccHeap x = new MvccHeap();
        x.open(0);
        due("sum of none", x.sum(0), 0);
        x.put(0, 7, 5);
        due("sum of the last row", x.sum(0), 5);
        x.drop(0, 7);
        due("sum after the drop", x.sum(0), 0);
        x.put(0, 0, -2);
        due("sum like a code", x.sum(0), -2);
    }

    private static void findFromEachRow() {
        for (int t = 0; t <= 3; t++) {
            MvccHeap x = heapWith(1, 1, 1, 1, 1, 1, 1, 1);
            x.open(t);
            for (int from = 0; from <= 7; from++) {
                due("find by " + t + " from " + from, x.find(t, from, 1), from);
            }
            x.drop(t, 3);
            x.put(t, 4, 0);
            due("find by " + t + " over a row gone and a row too small", x.find(t, 3, 1), 5);
            due("find by " + t + " before them", x.find(t, 2, 1), 2);
        }
    }

    private static void findComparesAnyTwoInts() {
        int[] numbers = {MIN, MIN + 1, -2, -1, 0, 1, 2, MAX - 1, MAX};
        for (int value : numbers) {
            MvccHeap x = heapWith(value);
            x.open(0);
            for (int v : numbers) {
                due("find of " + v + " where " + value + " is", x.find(0, 0, v), value >= v ? 0 : NONE);
            }
        }
    }

    private static void findNone() {
        MvccHeap x = heapWith(5, 9);
        x.open(0);
        due("find of too great a value", x.find(0, 0, 10), NONE);
        due("find of a value that stands before from", x.find(0, 2, 5), NONE);
        due("find of any value where no row is there", x.find(0, 2, MIN), NONE);
        x.open(1);
        x.put(1, 7, 20);
        due("find of what another put", x.find(0, 0, 10), NONE);
        x.drop(0, 0);
        x.drop(0, 1);
        due("find in no rows", x.find(0, 0, MIN), NONE);
        due("find in no rows, of 0", x.find(0, 0, 0), NONE);
    }

    private static void changedOfEachRow() {
        MvccHeap all = new MvccHeap();
        all.open(0);
        due("changed, nothing", all.changed(0), 0);
        for (int r = 0; r <= 7; r++) {
            MvccHeap x = new MvccHeap();
            x.open(0);
            x.put(0, r, 0);
            due("changed, only " + r, x.changed(0), 1 << r);
            all.put(0, r, 0);
            due("changed, up to " + r, all.changed(0), (2 << r) - 1);
        }
    }

    private static void promises12To21() {
        test("Promise 12: FULL. Otherwise the number of savepoints", BoundariesTest::saveUpToThree);
        test("Promise 12: FULL leaves the third savepoint as it was", BoundariesTest::fullKeepsTheThird);
        test("Promise 13: Goes back to the last savepoint, which is gone then", BoundariesTest::backRemovesIt);
        test("Promise 13: NONE if there is none", BoundariesTest::backWithout);
        test("Promise 14: Answers how many rows it had changed", () -> countsItsRows(BY_COMMIT));
        test("Promise 15: Answers how many rows it had changed", () -> countsItsRows(BY_ABORT));
        test("Promise 16: Answers how many transactions were open", BoundariesTest::crashCounts);
        test("Promise 17: 0 if it is not there or r is not 0 to 7", BoundariesTest::committedOfNoRow);
        test("Promise 18: How many rows are there in the committed rows", BoundariesTest::rowsFrom0To8);
        test("Promise 19: Housekeeping (vacuum)", () -> keepsOldVersions(true));
        test("Promise 20: Housekeeping (flush)", () -> keepsOldVersions(false));
        test("Promise 21: from is any int and no row in the sense of BAD_ARG", BoundariesTest::fromIsAnyInt);
        test("Promise 21: below 0 all rows count", BoundariesTest::fromBelow0);
        test("Promise 21: above 7 the answer is NONE", BoundariesTest::fromAbove7);
        test("Promise 21: A transaction that opens has no savepoints", BoundariesTest::opensWithoutSavepoints);
        test("Promise 21: and has changed no row", BoundariesTest::opensWithoutChanges);
    }

    private static void saveUpToThree() {
        MvccHeap x = heapWith(1);
        x.open(0);
        due("save", x.save(0), 1);
        due("save", x.save(0), 2);
        due("save", x.save(0), 3);
        due("save, the fourth", x.save(0), FULL);
        due("save, the fourth again", x.save(0), FULL);
        due("back", x.back(0), 2);
        due("save, room for one", x.save(0), 3);
        due("save, full again", x.save(0), FULL);
    }

    private static void fullKeepsTheThird() {
        MvccHeap x = heapWith(1, 2);
        x.open(0);
        x.save(0);
        x.save(0);
        x.put(0, 0, 5);
        x.save(0);
        x.put(0, 0, 9);
        x.drop(0, 1);
        due("save", x.save(0), FULL);
        due("get before back", x.get(0, 0), 9);
        due("back", x.back(0), 2);
        due("get of the row put", x.get(0, 0), 5);
        due("get of the row dropped", x.get(0, 1), 2);
        due("changed", x.changed(0), 1);
    }

    private static void backRemovesIt() {
        MvccHeap x = heapWith(1);
        x.open(0);
        x.save(0);
        x.save(0);
        x.save(0);
        x.put(0, 0, 9);
        due("back", x.back(0), 2);
        due("get", x.get(0, 0), 1);
        due("back", x.back(0), 1);
        due("back", x.back(0), 0);
        x.put(0, 0, 9);
        due("back, all are gone", x.back(0), NONE);
        due("get, nothing was undone", x.get(0, 0), 9);
        due("save, the first again", x.save(0), 1);
    }

    private static void backWithout() {
        MvccHeap x = heapWith(1);
        x.open(0);
        x.open(1);
        x.save(1);
        x.put(0, 0, 9);
        due("back", x.back(0), NONE);
        due("back, once more", x.back(0), NONE);
        due("get", x.get(0, 0), 9);
        due("changed", x.changed(0), 1);
        due("back by another, which has one", x.back(1), 0);
    }

    private static void countsItsRows(int way) {
        for (int n = 0; n <= 8; n++) {
            MvccHeap x = heapWith(1, 2, 3, 4);
            x.open(1);
            for (int r = 0; r < n; r++) {
                x.put(1, r, 9);
                x.put(1, r, 10);
            }
            due("end with " + n + " rows", way == BY_COMMIT ? x.commit(1) : x.abort(1), n);
            due("end once more", way == BY_COMMIT ? x.commit(1) : x.abort(1), CLOSED);
            due("rows after " + n, x.rows(), way == BY_COMMIT && n > 4 ? n : 4);
        }
        MvccHeap x = heapWith(1, 2);
        x.open(1);
        x.drop(1, 0);
        x.put(1, 5, 1);
        x.drop(1, 5);
        x.save(1);
        x.put(1, 1, 9);
        x.back(1);
        due("end with a drop, a row come and gone, a row undone", way == BY_COMMIT ? x.commit(1) : x.abort(1), 2);
    }

    private static void crashCounts() {
        for (int n = 0; n <= 4; n++) {
            MvccHeap x = new MvccHeap();
            for (int t = 0; t < n; t++) {
                x.open(t);
            }
            due("crash with " + n, x.crash(), n);
            due("crash after it", x.crash(), 0);
        }
        MvccHeap x = new MvccHeap();
        x.open(0);
        x.open(1);
        x.open(2);
        x.commit(0);
        x.abort(2);
        due("crash with one left", x.crash(), 1);
    }

    private static void committedOfNoRow() {
        MvccHeap x = heapWith(1, 2, 3, 4, 5, 6, 7, 8);
        for (int r : new int[] {-1, 8, MIN, MAX, -8, 16, 32, -32}) {
            due("committed " + r, x.committed(r), 0);
        }
        due("committed 0", x.committed(0), 1);
        due("committed 7", x.committed(7), 8);
        x.open(0);
        x.drop(0, 7);
        due("committed of an open drop", x.committed(7), 8);
        x.commit(0);
        due("committed of a row dropped", x.committed(7), 0);
        x.open(0);
        x.put(0, 7, 9);
        due("committed of an open put", x.committed(7), 0);
    }

    private static void rowsFrom0To8() {
        for (int n = 0; n <= 8; n++) {
            due("rows with " + n, heapWith(new int[n]).rows(), n);
        }
        MvccHeap x = heapWith(new int[8]);
        x.open(0);
        for (int r = 0; r <= 7; r++) {
            x.drop(0, r);
        }
        due("rows, the drops are not committed", x.rows(), 8);
        x.commit(0);
        due("rows, the drops are committed", x.rows(), 0);
    }

    private static void keepsOldVersions(boolean byVacuum) {
        MvccHeap x = heapWith(1, 2, 3);
        x.open(1);
        x.open(2);
        x.save(1);
        x.put(1, 1, 20);
        x.put(2, 0, 10);
        x.commit(2);
        housekeep(x, byVacuum);
        due("get of the snapshot", x.get(1, 0), 1);
        due("put of a stale row", x.put(1, 0, 5), STALE);
        due("changed", x.changed(1), 2);
        due("back", x.back(1), 0);
        due("get of the row undone", x.get(1, 1), 2);
        x.put(1, 2, 30);
        housekeep(x, byVacuum);
        due("crash", x.crash(), 1);
        due("committed, what was committed", x.committed(0), 10);
        due("committed, what was not", x.committed(2), 3);
        due("rows", x.rows(), 3);
    }

    private static void housekeep(MvccHeap x, boolean byVacuum) {
        if (byVacuum) {
            x.vacuum();
        } else {
            x.flush();
        }
    }

    private static void fromIsAnyInt() {
        MvccHeap x = heapWith(1);
        x.open(0);
        for (int from : new int[] {-1, -8, -32, MIN}) {
            due("find from " + from, x.find(0, from, 1), 0);
        }
        for (int from : new int[] {8, 9, 32, MAX}) {
            due("find from " + from, x.find(0, from, 1), NONE);
        }
    }

    private static void fromBelow0() {
        MvccHeap x = heapWith(1, 2, 3, 4, 5, 6, 7, 8);
        x.open(0);
        for (int from : new int[] {-1, -2, -8, MIN, MIN + 1}) {
            for (int v = 1; v <= 8; v++) {
                due("find from " + from + " of " + v, x.find(0, from, v), v - 1);
            }
            due("find from " + from + " of 9", x.find(0, from, 9), NONE);
        }
    }

    private static void fromAbove7() {
        MvccHeap x = heapWith(1, 2, 3, 4, 5, 6, 7, 8);
        x.open(0);
        due("find from 7", x.find(0, 7, MIN), 7);
        for (int from : new int[] {8, 9, 16, 32, 40, MAX - 1, MAX}) {
            due("find from " + from, x.find(0, from, MIN), NONE);
        }
    }

    private static void opensWithoutSavepoints() {
        for (int way = BY_COMMIT; way <= BY_CRASH; way++) {
            for (int t = 0; t <= 3; t++) {
                MvccHeap x = heapWith(1);
                x.open(t);
                x.save(t);
                x.put(t, 0, 9);
                x.save(t);
                x.save(t);
                end(x, t, way);
                x.open(t);
                due("back by " + t + ", way " + way, x.back(t), NONE);
                due("save by " + t + ", way " + way, x.save(t), 1);
                due("back to its own, way " + way, x.back(t), 0);
                due("get by " + t + ", way " + way, x.get(t, 0), way == BY_COMMIT ? 9 : 1);
            }
        }
    }

    private static void opensWithoutChanges() {
        for (int way = BY_COMMIT; way <= BY_CRASH; way++) {
            for (int t = 0; t <= 3; t++) {
                int other = (t + 1) % 4;
                MvccHeap x = heapWith(1, 2);
                x.open(t);
                x.open(other);
                x.put(other, 1, 8);
                x.commit(other);
                x.put(t, 0, 9);
                x.put(t, 7, 9);
                end(x, t, way);
                x.open(t);
                x.open(other);
                due("changed by " + t + ", way " + way, x.changed(t), 0);
                due("put by another, way " + way, x.put(other, 0, 5), 1);
                due("put of the row that was stale, way " + way, x.put(t, 1, 5), 1);
                due("commit by " + t + ", way " + way, x.commit(t), 1);
                due("commit by the other, way " + way, x.commit(other), 1);
            }
        }
    }

    public static void main(String[] args) {
        promises1To11();
        promises12To21();
        finish();
    }
}
