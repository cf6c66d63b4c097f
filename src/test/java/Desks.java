/** What several tests need: desks with running transactions, short calls, a whole picture. */
final class Desks {
    static final int[] NO_SESSIONS = {-1, 6, Integer.MIN_VALUE, Integer.MAX_VALUE};
    static final int[] NO_TABLES = {-1, 8, Integer.MIN_VALUE, Integer.MAX_VALUE};
    static final int[] NO_CELLS = {-1, 8, Integer.MIN_VALUE, Integer.MAX_VALUE};
    static final int[] NO_COLUMNS = {-2, 8, Integer.MIN_VALUE, Integer.MAX_VALUE};
    static final int[] NO_BOUNDS = {-1, 16, Integer.MIN_VALUE, Integer.MAX_VALUE};

    private Desks() {
    }

    /** One runs in each of the first sessions; the one in session s has the id s + 1. */
    static SerialDesk with(int sessions) {
        SerialDesk desk = new SerialDesk();
        for (int s = 0; s < sessions; s++) {
            desk.begin(s);
        }
        return desk;
    }

    /** One runs in session 0, and as many others as said have committed since in session 1. */
    static SerialDesk withCommitted(int committed) {
        SerialDesk desk = with(1);
        for (int i = 0; i < committed; i++) {
            desk.begin(1);
            desk.commit(1);
        }
        return desk;
    }

    static int readAll(SerialDesk desk, int s, int table) {
        return desk.read(s, table, -1, 0, 0, 0);
    }

    /** Reads eight ranges of a table: in each column c the value c alone. */
    static void readEight(SerialDesk desk, int s, int table) {
        for (int column = 0; column < 8; column++) {
            desk.read(s, table, column, column, column, 0);
        }
    }

    /** Whether a range is hit by a version that has one value in that column, and else NULL. */
    static boolean hits(int bounds, long low, long high, long value) {
        SerialDesk desk = with(2);
        desk.read(0, 2, 3, low, high, bounds);
        desk.cell(3, value);
        desk.write(1, 2);
        return desk.arrow(1, 2);
    }

    /** All that can be seen of the transactions up to an id, to tell that nothing has changed. */
    static String picture(SerialDesk desk, int ids) {
        StringBuilder text = new StringBuilder();
        for (int what = 0; what < 3; what++) {
            text.append(desk.count(what)).append(' ');
        }
        for (int id = 1; id <= ids; id++) {
            for (int what = 0; what < 6; what++) {
                text.append(desk.look(id, what)).append(' ');
            }
            for (int other = 1; other <= ids; other++) {
                text.append(desk.arrow(id, other) ? 'x' : '.');
            }
        }
        return text.toString();
    }
}
