public final class MvccHeap {
    public static final int BAD_ARG = -1;
    public static final int CLOSED = -2;
    public static final int NONE = -3;
    public static final int BUSY = -4;
    public static final int STALE = -5;
    public static final int FULL = -6;

    private static final int ACCEPTED = 0;
    private static final int ROWS = 8;
    private static final int TRANSACTIONS = 4;
    private static final int SAVEPOINTS = 3;
    private static final int SEEN_VALUES = TRANSACTIONS * ROWS;
    private static final int SAVED_STATES = TRANSACTIONS * SAVEPOINTS;
    private static final int SAVED_VALUES = SAVED_STATES * ROWS;

    // A set of rows is an int with bit r standing for row r, which is the form that changed() answers.
    private int committedThere = 0;
    private final int[] committedValue = new int[ROWS];

    // Each open transaction keeps a whole copy of the rows as it sees them, so a later commit can't reach its snapshot.
    private final boolean[] isOpen = new boolean[TRANSACTIONS];
    private final int[] seenThere = new int[TRANSACTIONS];
    private final int[] seenValue = new int[SEEN_VALUES];
    private final int[] changedRows = new int[TRANSACTIONS];
    private final int[] staleRows = new int[TRANSACTIONS];

    private final int[] savepointCount = new int[TRANSACTIONS];
    private final int[] savedThere = new int[SAVED_STATES];
    private final int[] savedChanged = new int[SAVED_STATES];
    private final int[] savedValue = new int[SAVED_VALUES];

    public MvccHeap() {
        // The fields begin as false and 0: nothing is there and nothing is open.
    }

    public int open(int t) {
        if (!isTransaction(t)) {
            return BAD_ARG;
        }
        if (isOpen[t]) {
            return CLOSED;
        }
        isOpen[t] = true;
        changedRows[t] = 0;
        staleRows[t] = 0;
        savepointCount[t] = 0;
        seenThere[t] = committedThere;
        for (int r = 0; r < ROWS; r++) {
            seenValue[t * ROWS + r] = committedValue[r];
        }
        return 0;
    }

    public int put(int t, int r, int v) {
        int refusal = rowRefusal(t, r);
        if (refusal == ACCEPTED) {
            refusal = conflict(t, r);
        }
        if (refusal != ACCEPTED) {
            return refusal;
        }
        int before = contains(seenThere[t], r) ? 1 : 0;
        seenThere[t] |= 1 << r;
        seenValue[t * ROWS + r] = v;
        changedRows[t] |= 1 << r;
        return before;
    }

    public int add(int t, int r, int d) {
        int refusal = existingRowRefusal(t, r);
        if (refusal != ACCEPTED) {
            return refusal;
        }
        seenValue[t * ROWS + r] += d;
        changedRows[t] |= 1 << r;
        return 0;
    }

    public int drop(int t, int r) {
        int refusal = existingRowRefusal(t, r);
        if (refusal != ACCEPTED) {
            return refusal;
        }
        seenThere[t] &= ~(1 << r);
        changedRows[t] |= 1 << r;
        return 0;
    }

    public int get(int t, int r) {
        if (rowRefusal(t, r) != ACCEPTED) {
            return 0;
        }
        return contains(seenThere[t], r) ? seenValue[t * ROWS + r] : 0;
    }

    public boolean has(int t, int r) {
        if (rowRefusal(t, r) != ACCEPTED) {
            return false;
        }
        return contains(seenThere[t], r);
    }

    public int count(int t) {
        int refusal = transactionRefusal(t);
        if (refusal != ACCEPTED) {
            return refusal;
        }
        return size(seenThere[t]);
    }

    public int sum(int t) {
        if (transactionRefusal(t) != ACCEPTED) {
            return 0;
        }
        int total = 0;
        for (int r = 0; r < ROWS; r++) {
            if (contains(seenThere[t], r)) {
                total += seenValue[t * ROWS + r];
            }
        }
        return total;
    }

    public int find(int t, int from, int v) {
        int refusal = transactionRefusal(t);
        if (refusal != ACCEPTED) {
            return refusal;
        }
        for (int r = 0; r < ROWS; r++) {
            if (r >= from && contains(seenThere[t], r) && seenValue[t * ROWS + r] >= v) {
                return r;
            }
        }
        return NONE;
    }

    public int changed(int t) {
        int refusal = transactionRefusal(t);
        if (refusal != ACCEPTED) {
            return refusal;
        }
        return changedRows[t];
    }

    public int save(int t) {
        int refusal = transactionRefusal(t);
        if (refusal != ACCEPTED) {
            return refusal;
        }
        int depth = savepointCount[t];
        if (depth >= SAVEPOINTS) {
            return FULL;
        }
        int state = t * SAVEPOINTS + depth;
        savedThere[state] = seenThere[t];
        savedChanged[state] = changedRows[t];
        for (int r = 0; r < ROWS; r++) {
            savedValue[state * ROWS + r] = seenValue[t * ROWS + r];
        }
        savepointCount[t] = depth + 1;
        return depth + 1;
    }

    public int back(int t) {
        int refusal = transactionRefusal(t);
        if (refusal != ACCEPTED) {
            return refusal;
        }
        int left = savepointCount[t] - 1;
        if (left < 0) {
            return NONE;
        }
        // The stale rows stay as they are: what others committed since the opening is not undone.
        int state = t * SAVEPOINTS + left;
        seenThere[t] = savedThere[state];
        changedRows[t] = savedChanged[state];
        for (int r = 0; r < ROWS; r++) {
            seenValue[t * ROWS + r] = savedValue[state * ROWS + r];
        }
        savepointCount[t] = left;
        return left;
    }

    public int commit(int t) {
        int refusal = transactionRefusal(t);
        if (refusal != ACCEPTED) {
            return refusal;
        }
        int rowsOfT = changedRows[t];
        // Only the changed rows: the rest of t's copy may be older than what is committed by now.
        committedThere = (committedThere & ~rowsOfT) | (seenThere[t] & rowsOfT);
        for (int r = 0; r < ROWS; r++) {
            if (contains(rowsOfT, r)) {
                committedValue[r] = seenValue[t * ROWS + r];
            }
        }
        isOpen[t] = false;
        // Transactions that aren't open are marked too: opening clears the marks.
        for (int other = 0; other < TRANSACTIONS; other++) {
            staleRows[other] |= rowsOfT;
        }
        return size(rowsOfT);
    }

    public int abort(int t) {
        int refusal = transactionRefusal(t);
        if (refusal != ACCEPTED) {
            return refusal;
        }
        isOpen[t] = false;
        return size(changedRows[t]);
    }

    public int crash() {
        int wereOpen = 0;
        for (int t = 0; t < TRANSACTIONS; t++) {
            if (isOpen[t]) {
                wereOpen++;
                isOpen[t] = false;
            }
        }
        return wereOpen;
    }

    public int committed(int r) {
        if (!isRow(r)) {
            return 0;
        }
        return contains(committedThere, r) ? committedValue[r] : 0;
    }

    public int rows() {
        return size(committedThere);
    }

    public void vacuum() {
        // No old versions pile up here, so there is nothing to clear away.
    }

    public void flush() {
        // A commit lasts as soon as it is made, so nothing waits to be written.
    }

    private boolean isTransaction(int t) {
        return t >= 0 && t < TRANSACTIONS;
    }

    private boolean isRow(int r) {
        return r >= 0 && r < ROWS;
    }

    private int transactionRefusal(int t) {
        if (!isTransaction(t)) {
            return BAD_ARG;
        }
        return isOpen[t] ? ACCEPTED : CLOSED;
    }

    private int rowRefusal(int t, int r) {
        int refusal = transactionRefusal(t);
        if (refusal != ACCEPTED) {
            return refusal;
        }
        return isRow(r) ? ACCEPTED : BAD_ARG;
    }

    private int existingRowRefusal(int t, int r) {
        int refusal = rowRefusal(t, r);
        if (refusal != ACCEPTED) {
            return refusal;
        }
        if (!contains(seenThere[t], r)) {
            return NONE;
        }
        return conflict(t, r);
    }

    private int conflict(int t, int r) {
        for (int other = 0; other < TRANSACTIONS; other++) {
            if (other != t && isOpen[other] && contains(changedRows[other], r)) {
                return BUSY;
            }
        }
        return contains(staleRows[t], r) ? STALE : ACCEPTED;
    }

    private boolean contains(int set, int r) {
        return ((set >> r) & 1) == 1;
    }

    private int size(int set) {
        int n = 0;
        for (int r = 0; r < ROWS; r++) {
            if (contains(set, r)) {
                n++;
            }
        }
        return n;
    }
}
