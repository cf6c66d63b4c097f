/**
 * Which transactions read what others wrote anew, and which of them must fail, so that those that
 * commit are as if they had run one after the other.
 */
public final class SerialDesk {
    private static final int SESSIONS = 6;
    private static final int TABLES = 8;
    private static final int COLUMNS = 8;
    private static final int MOST_KEPT = 64;
    private static final int MOST_RANGES = 8;
    private static final int WHOLE_TABLE = -1;

    private static final int LOW_IS_OUT = 1;
    private static final int HIGH_IS_OUT = 2;
    private static final int NO_LOW = 4;
    private static final int NO_HIGH = 8;
    private static final int HIGHEST_BOUNDS = LOW_IS_OUT + HIGH_IS_OUT + NO_LOW + NO_HIGH;

    private final Version inHand;
    private final Transaction[] bySession;
    private final Transaction[] bySlot;
    private int keptCount;
    private int begunCount;
    private int commitCount;

    public SerialDesk() {
        inHand = new Version();
        bySession = new Transaction[SESSIONS];
        bySlot = new Transaction[MOST_KEPT];
        keptCount = 0;
        begunCount = 0;
        commitCount = 0;
    }

    public int begin(int s) {
        int slot = freeSlot();
        if (!isSession(s) || bySession[s] != null || slot < 0) {
            return -1;
        }
        begunCount++;
        Transaction started = new Transaction(begunCount, slot, commitCount);
        bySession[s] = started;
        bySlot[slot] = started;
        keptCount++;
        return started.id;
    }

    public int read(int s, int table, int column, long low, long high, int bounds) {
        Transaction reader = runningIn(s);
        if (reader == null || !isTable(table)) {
            return -1;
        }
        if (column == WHOLE_TABLE) {
            return reader.addRange(table, wholeTable());
        }
        if (!isColumn(column) || bounds < 0 || bounds > HIGHEST_BOUNDS) {
            return -1;
        }
        return reader.addRange(table, new Range(column, low, high, bounds));
    }

    public boolean cell(int column, long value) {
        if (!isColumn(column)) {
            return false;
        }
        inHand.fill(column, value);
        return true;
    }

    public void clear() {
        inHand.empty();
    }

    public boolean write(int s, int table) {
        Transaction writer = runningIn(s);
        if (writer == null || !isTable(table)) {
            return false;
        }
        for (int i = 0; i < bySlot.length; i++) {
            Transaction reader = bySlot[i];
            if (reader != null && reader != writer && reader.isConcurrentWith(writer)
                    && reader.hasRangeWith(table, inHand)) {
                reader.pointAt(writer);
                if (isFirstOfDanger(reader, writer)) {
                    writer.doomed = true;
                }
            }
        }
        return writer.doomed;
    }

    public boolean miss(int s, int id) {
        Transaction reader = runningIn(s);
        if (reader == null) {
            return false;
        }
        Transaction missed = keptWithId(id);
        if (missed != null && missed != reader && missed.isConcurrentWith(reader)) {
            reader.pointAt(missed);
            if (isFirstOfDanger(reader, missed) || isSecondOfDanger(reader, missed)) {
                reader.doomed = true;
            }
        }
        return reader.doomed;
    }

    public int commit(int s) {
        Transaction ending = runningIn(s);
        if (ending == null || !isSession(s)) {
            return -1;
        }
        if (ending.doomed) {
            return 0;
        }
        commitCount++;
        ending.commitNumber = commitCount;
        bySession[s] = null;
        tellCommit(ending);
        dropNoLongerKept();
        return commitCount;
    }

    public boolean abort(int s) {
        Transaction ending = runningIn(s);
        if (ending == null || !isSession(s)) {
            return false;
        }
        bySession[s] = null;
        drop(ending);
        dropNoLongerKept();
        return true;
    }

    public boolean doom(int s) {
        Transaction failing = runningIn(s);
        if (failing == null) {
            return false;
        }
        failing.doomed = true;
        return true;
    }

    public int look(int id, int what) {
        if (what < 0 || what > 5) {
            return -1;
        }
        Transaction seen = keptWithId(id);
        if (seen == null) {
            return 0;
        }
        switch (what) {
            case 0:
                return seen.isRunning() ? 1 : 2;
            case 1:
                return seen.doomed ? 1 : 0;
            case 2:
                return seen.commitsAtBegin;
            case 3:
                return seen.commitNumber;
            case 4:
                return seen.firstCommitPointedAt;
            default:
                return arrowsInto(seen);
        }
    }

    public boolean arrow(int a, int b) {
        Transaction from = keptWithId(a);
        Transaction to = keptWithId(b);
        return from != null && to != null && from.pointsAt(to);
    }

    /** No books are kept for this: the dooms leave no ring, so the answer is known. */
    public int rings() {
        return 0;
    }

    public int count(int what) {
        switch (what) {
            case 0:
                return keptCount;
            case 1:
                return begunCount;
            case 2:
                return commitCount;
            default:
                return -1;
        }
    }

    private static boolean isSession(int s) {
        return s >= 0 && s < SESSIONS;
    }

    private static boolean isTable(int table) {
        return table >= 0 && table < TABLES;
    }

    private static boolean isColumn(int column) {
        return column >= 0 && column < COLUMNS;
    }

    private static Range wholeTable() {
        return new Range(WHOLE_TABLE, 0L, 0L, NO_LOW + NO_HIGH);
    }

    private Transaction runningIn(int s) {
        return isSession(s) ? bySession[s] : null;
    }

    private int freeSlot() {
        for (int i = 0; i < bySlot.length; i++) {
            if (bySlot[i] == null) {
                return i;
            }
        }
        return -1;
    }

    private Transaction keptWithId(int id) {
        for (int i = 0; i < bySlot.length; i++) {
            Transaction kept = bySlot[i];
            if (kept != null && kept.id == id) {
                return kept;
            }
        }
        return null;
    }

    private int arrowsInto(Transaction target) {
        int found = 0;
        for (int i = 0; i < bySlot.length; i++) {
            Transaction kept = bySlot[i];
            if (kept != null && kept.pointsAt(target)) {
                found++;
            }
        }
        return found;
    }

    /**
     * Of all that the pivot points at, the one that committed first is the hardest to commit
     * before, so it alone tells whether there is a danger.
     */
    private static boolean isFirstOfDanger(Transaction from, Transaction pivot) {
        int first = pivot.firstCommitPointedAt;
        return first != 0 && !from.committedBefore(first) && !pivot.committedBefore(first);
    }

    /** The pivot must be running: one that has committed could have done so before the target. */
    private boolean isSecondOfDanger(Transaction pivot, Transaction to) {
        return !to.isRunning() && isPointedAtByOneNotBefore(pivot, to.commitNumber);
    }

    private boolean isPointedAtByOneNotBefore(Transaction target, int commitNumber) {
        for (int i = 0; i < bySlot.length; i++) {
            Transaction kept = bySlot[i];
            if (kept != null && kept.pointsAt(target) && !kept.committedBefore(commitNumber)) {
                return true;
            }
        }
        return false;
    }

    private void tellCommit(Transaction committed) {
        for (int i = 0; i < bySlot.length; i++) {
            Transaction kept = bySlot[i];
            if (kept != null && kept.pointsAt(committed)) {
                kept.noteCommitPointedAt(committed.commitNumber);
                if (kept.isRunning() && isSecondOfDanger(kept, committed)) {
                    kept.doomed = true;
                }
            }
        }
    }

    private void dropNoLongerKept() {
        int earliest = commitsAtEarliestBegin();
        for (int i = 0; i < bySlot.length; i++) {
            Transaction kept = bySlot[i];
            if (kept != null && !kept.isRunning() && kept.commitNumber <= earliest) {
                drop(kept);
            }
        }
    }

    /** With none running this is the number of all commits, before which nobody runs any more. */
    private int commitsAtEarliestBegin() {
        int earliest = commitCount;
        for (int i = 0; i < bySession.length; i++) {
            Transaction running = bySession[i];
            if (running != null && running.commitsAtBegin < earliest) {
                earliest = running.commitsAtBegin;
            }
        }
        return earliest;
    }

    /** The slot will serve another transaction, which must not inherit arrows to this one. */
    private void drop(Transaction gone) {
        for (int i = 0; i < bySlot.length; i++) {
            Transaction kept = bySlot[i];
            if (kept == gone) {
                bySlot[i] = null;
                keptCount--;
            } else if (kept != null) {
                kept.forgetArrowTo(gone);
            }
        }
    }

    /** Eight cells, each a value or NULL. */
    private static final class Version {
        private final long[] values = new long[COLUMNS];
        private final boolean[] filled = new boolean[COLUMNS];

        void fill(int column, long value) {
            if (isColumn(column)) {
                values[column] = value;
                filled[column] = true;
            }
        }

        void empty() {
            for (int i = 0; i < filled.length; i++) {
                filled[i] = false;
            }
        }

        boolean isFilled(int column) {
            return isColumn(column) && filled[column];
        }

        long valueOf(int column) {
            return isColumn(column) ? values[column] : 0L;
        }
    }

    /** All of a table, or a part of one column; a link in the chain of those of one table. */
    private static final class Range {
        private final int column;
        private final long low;
        private final long high;
        private final int bounds;
        private Range next;

        Range(int column, long low, long high, int bounds) {
            this.column = column;
            this.low = low;
            this.high = high;
            this.bounds = bounds;
            this.next = null;
        }

        boolean isWholeTable() {
            return column == WHOLE_TABLE;
        }

        boolean isSameAs(Range other) {
            return column == other.column && bounds == other.bounds
                    && (lacks(NO_LOW) || low == other.low)
                    && (lacks(NO_HIGH) || high == other.high);
        }

        boolean holds(Version version) {
            if (isWholeTable()) {
                return true;
            }
            if (!version.isFilled(column)) {
                return false;
            }
            long value = version.valueOf(column);
            return isAboveLow(value) && isBelowHigh(value);
        }

        private boolean lacks(int bound) {
            return (bounds & bound) != 0;
        }

        private boolean isAboveLow(long value) {
            if (lacks(NO_LOW)) {
                return true;
            }
            return (bounds & LOW_IS_OUT) != 0 ? value > low : value >= low;
        }

        private boolean isBelowHigh(long value) {
            if (lacks(NO_HIGH)) {
                return true;
            }
            return (bounds & HIGH_IS_OUT) != 0 ? value < high : value <= high;
        }
    }

    /** One that runs, or a committed one that is still kept. */
    private static final class Transaction {
        private final int id;
        private final int slot;
        private final int commitsAtBegin;
        private int commitNumber;
        private boolean doomed;
        /** A bit for the slot of each kept transaction to which an arrow goes. */
        private long arrows;
        /** Outlives the arrow's bit, for a danger may end in one that is not kept any more. */
        private int firstCommitPointedAt;
        private final Range[] firstRange;
        private final int[] rangeCount;

        Transaction(int id, int slot, int commitsAtBegin) {
            this.id = id;
            this.slot = slot;
            this.commitsAtBegin = commitsAtBegin;
            this.commitNumber = 0;
            this.doomed = false;
            this.arrows = 0L;
            this.firstCommitPointedAt = 0;
            this.firstRange = new Range[TABLES];
            this.rangeCount = new int[TABLES];
        }

        boolean isRunning() {
            return commitNumber == 0;
        }

        boolean committedBefore(int commit) {
            return !isRunning() && commitNumber < commit;
        }

        /** The other one must be running, so that only this one can have committed too early. */
        boolean isConcurrentWith(Transaction running) {
            return isRunning() || commitNumber > running.commitsAtBegin;
        }

        boolean pointsAt(Transaction other) {
            return (arrows & (1L << other.slot)) != 0L;
        }

        void pointAt(Transaction other) {
            arrows |= 1L << other.slot;
            if (!other.isRunning()) {
                noteCommitPointedAt(other.commitNumber);
            }
        }

        void forgetArrowTo(Transaction other) {
            arrows &= ~(1L << other.slot);
        }

        void noteCommitPointedAt(int commit) {
            if (firstCommitPointedAt == 0 || commit < firstCommitPointedAt) {
                firstCommitPointedAt = commit;
            }
        }

        int addRange(int table, Range wanted) {
            if (!isTable(table)) {
                return -1;
            }
            if (isCovered(table, wanted)) {
                return rangeCount[table];
            }
            if (rangeCount[table] >= MOST_RANGES) {
                firstRange[table] = wholeTable();
                rangeCount[table] = 1;
                return 1;
            }
            wanted.next = firstRange[table];
            firstRange[table] = wanted;
            rangeCount[table]++;
            return rangeCount[table];
        }

        private boolean isCovered(int table, Range wanted) {
            if (!isTable(table)) {
                return false;
            }
            for (Range own = firstRange[table]; own != null; own = own.next) {
                if (own.isWholeTable() || own.isSameAs(wanted)) {
                    return true;
                }
            }
            return false;
        }

        boolean hasRangeWith(int table, Version version) {
            if (!isTable(table)) {
                return false;
            }
            for (Range own = firstRange[table]; own != null; own = own.next) {
                if (own.holds(version)) {
                    return true;
                }
            }
            return false;
        }
    }
}
