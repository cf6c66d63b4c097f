import java.util.ArrayList;
import java.util.List;

/**
 * The document's terms taken word by word: it forgets nothing, and asks every question anew from
 * all that ever happened. The tests compare the class with it.
 */
final class SlowDesk {
    private static final class Deal {
        int id;
        int session;
        long began;
        long committed = -1;
        long aborted = -1;
        int commitsAtBegin;
        int commit;
        boolean doomed;
        final List<List<long[]>> ranges = new ArrayList<>();

        boolean runs() {
            return committed < 0 && aborted < 0;
        }
    }

    private final List<Deal> deals = new ArrayList<>();
    private final List<Deal[]> arrows = new ArrayList<>();
    private final Long[] cells = new Long[8];
    private long now = 0;
    private int commits = 0;

    private Deal running(int s) {
        for (Deal deal : deals) {
            if (deal.runs() && deal.session == s) {
                return deal;
            }
        }
        return null;
    }

    private boolean kept(Deal deal) {
        if (deal.runs()) {
            return true;
        }
        if (deal.committed < 0) {
            return false;
        }
        for (Deal other : deals) {
            if (other.runs() && other.began < deal.committed) {
                return true;
            }
        }
        return false;
    }

    private Deal keptById(int id) {
        return id >= 1 && id <= deals.size() && kept(deals.get(id - 1)) ? deals.get(id - 1) : null;
    }

    private static boolean concurrent(Deal a, Deal b) {
        boolean aFirst = a.committed >= 0 && a.committed < b.began;
        boolean bFirst = b.committed >= 0 && b.committed < a.began;
        return !aFirst && !bFirst;
    }

    private boolean was(Deal a, Deal b) {
        for (Deal[] arrow : arrows) {
            if (arrow[0] == a && arrow[1] == b) {
                return true;
            }
        }
        return false;
    }

    private boolean known(Deal a, Deal b) {
        return b.aborted < 0 && was(a, b) && kept(a);
    }

    private static boolean before(Deal a, Deal b) {
        return a.committed >= 0 && a.committed < b.committed;
    }

    private boolean danger(Deal a, Deal p, Deal b) {
        return b.committed >= 0 && known(a, p) && known(p, b) && !before(a, b) && !before(p, b);
    }

    private boolean inDanger(Deal from, Deal to) {
        for (Deal third : deals) {
            if (danger(from, to, third) || danger(third, from, to)) {
                return true;
            }
        }
        return false;
    }

    private void arrowComes(Deal from, Deal to, Deal doer) {
        if (!was(from, to)) {
            arrows.add(new Deal[] {from, to});
        }
        if (inDanger(from, to)) {
            doer.doomed = true;
        }
    }

    int begin(int s) {
        now++;
        if (s < 0 || s > 5 || running(s) != null || count(0) >= 64) {
            return -1;
        }
        Deal deal = new Deal();
        deal.id = deals.size() + 1;
        deal.session = s;
        deal.began = now;
        deal.commitsAtBegin = commits;
        for (int i = 0; i < 8; i++) {
            deal.ranges.add(new ArrayList<>());
        }
        deals.add(deal);
        return deal.id;
    }

    int read(int s, int table, int column, long low, long high, int bounds) {
        Deal deal = running(s);
        if (deal == null || table < 0 || table > 7 || column < -1 || column > 7) {
            return -1;
        }
        if (column != -1 && (bounds < 0 || bounds > 15)) {
            return -1;
        }
        // What does not count for a range is written as 0, so that the same ones look the same.
        long[] range = column == -1 ? new long[] {-1, 0, 0, 0} : new long[] {
            column, bounds, bounds / 4 % 2 == 1 ? 0 : low, bounds / 8 == 1 ? 0 : high};
        List<long[]> ranges = deal.ranges.get(table);
        for (long[] own : ranges) {
            if (own[0] == -1 || java.util.Arrays.equals(own, range)) {
                return ranges.size();
            }
        }
        if (ranges.size() == 8) {
            ranges.clear();
            range = new long[] {-1, 0, 0, 0};
        }
        ranges.add(range);
        return ranges.size();
    }

    boolean cell(int column, long value) {
        if (column < 0 || column > 7) {
            return false;
        }
        cells[column] = value;
        return true;
    }

    void clear() {
        java.util.Arrays.fill(cells, null);
    }

    private boolean isIn(long[] range) {
        if (range[0] == -1) {
            return true;
        }
        Long value = cells[(int) range[0]];
        if (value == null) {
            return false;
        }
        int low = Long.compare(value, range[2]);
        int high = Long.compare(value, range[3]);
        int bounds = (int) range[1];
        boolean lowHolds = bounds / 4 % 2 == 1 || low > 0 || low == 0 && bounds % 2 == 0;
        boolean highHolds = bounds / 8 == 1 || high < 0 || high == 0 && bounds / 2 % 2 == 0;
        return lowHolds && highHolds;
    }

    boolean write(int s, int table) {
        Deal writer = running(s);
        if (writer == null || table < 0 || table > 7) {
            return false;
        }
        for (Deal deal : deals) {
            boolean reads = false;
            for (long[] range : deal.ranges.get(table)) {
                reads |= isIn(range);
            }
            if (reads && deal != writer && kept(deal) && concurrent(deal, writer)) {
                arrowComes(deal, writer, writer);
            }
        }
        return writer.doomed;
    }

    boolean miss(int s, int id) {
        Deal reader = running(s);
        if (reader == null) {
            return false;
        }
        Deal missed = keptById(id);
        if (missed != null && missed != reader && concurrent(reader, missed)) {
            arrowComes(reader, missed, reader);
        }
        return reader.doomed;
    }

    int commit(int s) {
        Deal b = running(s);
        if (b == null) {
            return -1;
        }
        if (b.doomed) {
            return 0;
        }
        List<Deal> doomed = new ArrayList<>();
        for (Deal p : deals) {
            for (Deal a : deals) {
                if (p.runs() && known(p, b) && known(a, p) && a.committed < 0) {
                    doomed.add(p);
                }
            }
        }
        for (Deal p : doomed) {
            p.doomed = true;
        }
        now++;
        commits++;
        b.committed = now;
        b.commit = commits;
        return commits;
    }

    boolean abort(int s) {
        Deal deal = running(s);
        if (deal == null) {
            return false;
        }
        now++;
        deal.aborted = now;
        return true;
    }

    boolean doom(int s) {
        Deal deal = running(s);
        if (deal == null) {
            return false;
        }
        deal.doomed = true;
        return true;
    }

    int look(int id, int what) {
        if (what < 0 || what > 5) {
            return -1;
        }
        Deal deal = keptById(id);
        if (deal == null) {
            return 0;
        }
        int[] answers = {deal.runs() ? 1 : 2, deal.doomed ? 1 : 0, deal.commitsAtBegin,
            deal.commit, firstCommit(deal), arrowsInto(deal)};
        return answers[what];
    }

    private int firstCommit(Deal from) {
        int first = 0;
        for (Deal to : deals) {
            if (to.commit > 0 && known(from, to) && (first == 0 || to.commit < first)) {
                first = to.commit;
            }
        }
        return first;
    }

    private int arrowsInto(Deal to) {
        int found = 0;
        for (Deal from : deals) {
            found += known(from, to) ? 1 : 0;
        }
        return found;
    }

    boolean arrow(int a, int b) {
        Deal from = keptById(a);
        Deal to = keptById(b);
        return from != null && to != null && known(from, to);
    }

    /** By the transitive closure of BEFORE over all that committed. */
    int rings() {
        int n = deals.size();
        boolean[][] reach = new boolean[n][n];
        for (Deal a : deals) {
            for (Deal b : deals) {
                boolean both = a.committed >= 0 && b.committed >= 0;
                reach[a.id - 1][b.id - 1] = both && (a.committed < b.began || was(a, b));
            }
        }
        for (int k = 0; k < n; k++) {
            for (int i = 0; i < n; i++) {
                for (int j = 0; j < n; j++) {
                    reach[i][j] |= reach[i][k] && reach[k][j];
                }
            }
        }
        int onRing = 0;
        for (int i = 0; i < n; i++) {
            onRing += reach[i][i] ? 1 : 0;
        }
        return onRing;
    }

    int count(int what) {
        if (what == 0) {
            int found = 0;
            for (Deal deal : deals) {
                found += kept(deal) ? 1 : 0;
            }
            return found;
        }
        return what == 1 ? deals.size() : what == 2 ? commits : -1;
    }
}
