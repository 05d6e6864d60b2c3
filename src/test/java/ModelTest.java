import java.util.ArrayList;
import java.util.List;
import java.util.Map;
import java.util.Random;
import java.util.TreeMap;
import java.util.TreeSet;

// Long runs of calls, the same ones each time, on MvccHeap and on a model that holds the same things in another way:
// maps of rows, a list of all commits, and a log of changes that is cut short by going back.
public final class ModelTest {
    private static final int RUNS = 4000;
    private static final int CALLS = 512;
    private static final int[] FAR = {Integer.MIN_VALUE, -9, -1, 8, 9, 40, Integer.MAX_VALUE};

    private static final class Change {
        final int row;
        final Integer value;

        Change(int row, Integer value) {
            this.row = row;
            this.value = value;
        }
    }

    private static final class Transaction {
        final TreeMap<Integer, Integer> snapshot;
        final int commitsBefore;
        final List<Change> log = new ArrayList<>();
        final List<Integer> savepoints = new ArrayList<>();

        Transaction(Map<Integer, Integer> committed, int commitsBefore) {
            this.snapshot = new TreeMap<>(committed);
            this.commitsBefore = commitsBefore;
        }

        TreeMap<Integer, Integer> sees() {
            TreeMap<Integer, Integer> rows = new TreeMap<>(snapshot);
            for (Change change : log) {
                if (change.value == null) {
                    rows.remove(change.row);
                } else {
                    rows.put(change.row, change.value);
                }
            }
            return rows;
        }

        TreeSet<Integer> changedRows() {
            TreeSet<Integer> rows = new TreeSet<>();
            for (Change change : log) {
                rows.add(change.row);
            }
            return rows;
        }
    }

    private static final class Model {
        final TreeMap<Integer, Integer> committed = new TreeMap<>();
        final List<TreeSet<Integer>> commits = new ArrayList<>();
        final TreeMap<Integer, Transaction> open = new TreeMap<>();

        int refusal(int t) {
            if (t < 0 || t > 3) {
                return -1;
            }
            return open.containsKey(t) ? 0 : -2;
        }

        int open(int t) {
            if (refusal(t) != -2) {
                return refusal(t) == 0 ? -2 : -1;
            }
            open.put(t, new Transaction(committed, commits.size()));
            return 0;
        }

        // kind: 0 put, 1 add, 2 drop
        int write(int kind, int t, int r, int n) {
            if (refusal(t) != 0) {
                return refusal(t);
            }
            if (r < 0 || r > 7) {
                return -1;
            }
            Transaction own = open.get(t);
            Integer before = own.sees().get(r);
            if (kind != 0 && before == null) {
                return -3;
            }
            for (Transaction other : open.values()) {
                if (other != own && other.changedRows().contains(r)) {
                    return -4;
                }
            }
            for (TreeSet<Integer> commit : commits.subList(own.commitsBefore, commits.size())) {
                if (commit.contains(r)) {
                    return -5;
                }
            }
            own.log.add(new Change(r, kind == 0 ? (Integer) n : kind == 1 ? (Integer) (before + n) : null));
            return kind == 0 && before != null ? 1 : 0;
        }

        int get(int t, int r) {
            return refusal(t) == 0 ? open.get(t).sees().getOrDefault(r, 0) : 0;
        }

        boolean has(int t, int r) {
            return refusal(t) == 0 && open.get(t).sees().containsKey(r);
        }

        int count(int t) {
            return refusal(t) == 0 ? open.get(t).sees().size() : refusal(t);
        }

        int sum(int t) {
            return refusal(t) == 0 ? open.get(t).sees().values().stream().mapToInt(v -> v).sum() : 0;
        }

        int find(int t, int from, int v) {
            if (refusal(t) != 0) {
                return refusal(t);
            }
            for (Map.Entry<Integer, Integer> row : open.get(t).sees().tailMap(from).entrySet()) {
                if (row.getValue() >= v) {
                    return row.getKey();
                }
            }
            return -3;
        }

        int changed(int t) {
            return refusal(t) == 0 ? open.get(t).changedRows().stream().mapToInt(r -> 1 << r).sum() : refusal(t);
        }

        int save(int t) {
            if (refusal(t) != 0) {
                return refusal(t);
            }
            List<Integer> savepoints = open.get(t).savepoints;
            if (savepoints.size() == 3) {
                return -6;
            }
            savepoints.add(open.get(t).log.size());
            return savepoints.size();
        }

        int back(int t) {
            if (refusal(t) != 0) {
                return refusal(t);
            }
            List<Integer> savepoints = open.get(t).savepoints;
            if (savepoints.isEmpty()) {
                return -3;
            }
            int length = savepoints.remove(savepoints.size() - 1);
            List<Change> log = open.get(t).log;
            log.subList(length, log.size()).clear();
            return savepoints.size();
        }

        int close(int t, boolean lasting) {
            if (refusal(t) != 0) {
                return refusal(t);
            }
            Transaction ending = open.remove(t);
            TreeSet<Integer> rows = ending.changedRows();
            if (lasting) {
                commits.add(rows);
                committed.keySet().removeAll(rows);
                TreeMap<Integer, Integer> seen = ending.sees();
                seen.keySet().retainAll(rows);
                committed.putAll(seen);
            }
            return rows.size();
        }

        int crash() {
            int n = open.size();
            open.clear();
            return n;
        }
    }

    private static int wrong = 0;

    private static void due(int run, String call, int got, int want) {
        if (got != want) {
            wrong++;
            if (wrong <= 20) {
                System.out.println("run " + run + ": " + call + " answered " + got + ", due is " + want);
            }
        }
    }

    private static int bit(boolean b) {
        return b ? 1 : 0;
    }

    private static int near(Random random, int bound) {
        return random.nextInt(25) == 0 ? FAR[random.nextInt(FAR.length)] : random.nextInt(bound);
    }

    private static int number(Random random) {
        switch (random.nextInt(8)) {
            case 0: return random.nextInt();
            case 1: return Integer.MAX_VALUE - random.nextInt(3);
            case 2: return Integer.MIN_VALUE + random.nextInt(3);
            default: return random.nextInt(9) - 4;
        }
    }

    private static void call(int run, Random random, int rowsInUse, MvccHeap x, Model m) {
        int t = near(random, 4);
        int r = near(random, rowsInUse);
        int n = number(random);
        String args = "(" + t + ", " + r + ", " + n + ")";
        switch (random.nextInt(28)) {
            case 0: case 1: due(run, "open" + args, x.open(t), m.open(t)); break;
            case 2: case 3: case 4: due(run, "put" + args, x.put(t, r, n), m.write(0, t, r, n)); break;
            case 5: case 6: due(run, "add" + args, x.add(t, r, n), m.write(1, t, r, n)); break;
            case 7: case 8: due(run, "drop" + args, x.drop(t, r), m.write(2, t, r, n)); break;
            case 9: case 10: due(run, "get" + args, x.get(t, r), m.get(t, r)); break;
            case 11: due(run, "has" + args, bit(x.has(t, r)), bit(m.has(t, r))); break;
            case 12: due(run, "count" + args, x.count(t), m.count(t)); break;
            case 13: due(run, "sum" + args, x.sum(t), m.sum(t)); break;
            case 14: case 15: due(run, "find" + args, x.find(t, r, n), m.find(t, r, n)); break;
            case 16: due(run, "changed" + args, x.changed(t), m.changed(t)); break;
            case 17: case 18: due(run, "save" + args, x.save(t), m.save(t)); break;
            case 19: case 20: due(run, "back" + args, x.back(t), m.back(t)); break;
            case 21: case 22: due(run, "commit" + args, x.commit(t), m.close(t, true)); break;
            case 23: due(run, "abort" + args, x.abort(t), m.close(t, false)); break;
            case 24: if (random.nextInt(6) == 0) { due(run, "crash", x.crash(), m.crash()); } break;
            case 25: due(run, "committed" + args, x.committed(r), m.committed.getOrDefault(r, 0)); break;
            case 26: due(run, "rows", x.rows(), m.committed.size()); break;
            default: if (random.nextBoolean()) { x.vacuum(); } else { x.flush(); } break;
        }
    }

    public static void main(String[] args) {
        for (int run = 1; run <= RUNS; run++) {
            Random random = new Random(run);
            // Few rows make the transactions meet each other more often.
            int rowsInUse = run % 2 == 0 ? 8 : 3;
            MvccHeap x = new MvccHeap();
            Model m = new Model();
            for (int i = 0; i < CALLS; i++) {
                call(run, random, rowsInUse, x, m);
            }
        }
        System.out.println(wrong == 0 ? "all answers are as due" : wrong + " answers are not as due");
        if (wrong != 0) {
            System.exit(1);
        }
    }
}
