/** The edges of promises 1 to 14: a test for each part of a sentence that names one. */
public final class CallEdgesTest {
    private static final Checks CHECKS = new Checks("CallEdgesTest");
    private static final int[] ODD = {-1, 0, 1, 5, 6, 7, 8, 64, 65, 512,
        Integer.MIN_VALUE, Integer.MAX_VALUE};

    public static void main(String[] args) {
        newHasNoTransactions();
        newHasNoCommits();
        beginTellsItsId();
        beginNeedsASession();
        beginNeedsAFreeSession();
        beginNeedsLessThan64Kept();
        readOfMinusOneIsAll();
        readTellsHowManyOfThatTable();
        readNeedsOneThatRuns();
        readNeedsATable();
        readNeedsAColumn();
        readNeedsBounds();
        cellGetsAValue();
        cellNeedsAColumn();
        clearMakesAllNull();
        clearChangesNothingElse();
        writeTellsWhetherDoomed();
        writeNeedsOneThatRuns();
        writeNeedsATable();
        missTellsWhetherDoomed();
        missNeedsOneThatRuns();
        commitTellsItsNumber();
        commitOfADoomedOne();
        commitNeedsOneThatRuns();
        abortEndsIt();
        abortNeedsOneThatRuns();
        doomIsFromNowOn();
        doomNeedsOneThatRuns();
        lookWhetherKept();
        lookWhetherDoomed();
        lookCommitsAtBegin();
        lookItsCommit();
        lookFirstCommitPointedAt();
        lookArrowsToIt();
        lookWithAnotherWhat();
        lookAtOneNotKept();
        arrowOfTwoKept();
        arrowNeedsBothKept();
        ringsAreNone();
        countKept();
        countBegun();
        countCommits();
        countWithAnotherWhat();
        CHECKS.end();
    }

    /** Six ran: 1 runs, 2 is doomed, 3 committed, 4 was aborted; sessions 2 and 3 are free. */
    private static SerialDesk mixed() {
        SerialDesk desk = Desks.with(6);
        desk.miss(0, 3);
        desk.miss(1, 5);
        Desks.readAll(desk, 0, 0);
        desk.commit(2);
        desk.doom(1);
        desk.abort(3);
        return desk;
    }

    private static void newHasNoTransactions() {
        CHECKS.sentence("No transactions");
        SerialDesk desk = new SerialDesk();
        CHECKS.due("kept", desk.count(0), 0);
        CHECKS.due("begun", desk.count(1), 0);
        for (int id : ODD) {
            CHECKS.due("look at " + id, desk.look(id, 0), 0);
            CHECKS.due("arrow from " + id, desk.arrow(id, 1), false);
        }
        for (int s = 0; s < 6; s++) {
            CHECKS.due("abort", desk.abort(s), false);
        }
        CHECKS.due("the first one's id", desk.begin(5), 1);
        CHECKS.due("of another object", new SerialDesk().count(1), 0);
    }

    private static void newHasNoCommits() {
        CHECKS.sentence("no commits");
        SerialDesk desk = new SerialDesk();
        CHECKS.due("commits", desk.count(2), 0);
        for (int s = 0; s < 6; s++) {
            CHECKS.due("commit", desk.commit(s), -1);
        }
        desk.begin(0);
        CHECKS.due("commits when the first began", desk.look(1, 2), 0);
        CHECKS.due("the first commit", desk.commit(0), 1);
        CHECKS.due("of another object", new SerialDesk().count(2), 0);
    }

    private static void beginTellsItsId() {
        CHECKS.sentence("A transaction begins in a session: its id");
        SerialDesk desk = mixed();
        CHECKS.due("in an aborted one's session", desk.begin(3), 7);
        CHECKS.due("in a committed one's session", desk.begin(2), 8);
        CHECKS.due("it runs", desk.look(8, 0), 1);
        CHECKS.due("it is not doomed", desk.look(8, 1), 0);
        CHECKS.due("it has no commit", desk.look(8, 3), 0);
        CHECKS.due("it points at none", desk.look(8, 4), 0);
        CHECKS.due("none points at it", desk.look(8, 5), 0);
    }

    private static void beginNeedsASession() {
        CHECKS.sentence("-1, changing nothing, if there is no such session");
        SerialDesk desk = mixed();
        String before = Desks.picture(desk, 7);
        for (int s : Desks.NO_SESSIONS) {
            CHECKS.due("begin in " + s, desk.begin(s), -1);
        }
        CHECKS.due("all after that", Desks.picture(desk, 7), before);
        CHECKS.due("the next id", desk.begin(2), 7);
    }

    private static void beginNeedsAFreeSession() {
        CHECKS.sentence("one runs in it");
        SerialDesk desk = mixed();
        String before = Desks.picture(desk, 7);
        CHECKS.due("one runs", desk.begin(0), -1);
        CHECKS.due("a doomed one runs", desk.begin(1), -1);
        CHECKS.due("in the last session", desk.begin(5), -1);
        CHECKS.due("all after that", Desks.picture(desk, 7), before);
        desk.commit(1);
        CHECKS.due("after a refused commit", desk.begin(1), -1);
        desk.abort(1);
        CHECKS.due("after the abort", desk.begin(1), 7);
    }

    private static void beginNeedsLessThan64Kept() {
        CHECKS.sentence("or 64 are kept");
        SerialDesk desk = Desks.withCommitted(62);
        CHECKS.due("with 63 kept", desk.begin(1), 64);
        CHECKS.due("with 64 kept", desk.begin(2), -1);
        CHECKS.due("kept", desk.count(0), 64);
        CHECKS.due("begun", desk.count(1), 64);
        CHECKS.due("no id is lost", desk.look(65, 0), 0);
        CHECKS.due("it does not run", desk.commit(2), -1);
        desk.abort(1);
        CHECKS.due("with 63 kept again", desk.begin(2), 65);
        CHECKS.due("with 64 kept again", desk.begin(1), -1);
        desk.commit(0);
        CHECKS.due("with two kept", desk.begin(1), 66);
    }

    private static void readOfMinusOneIsAll() {
        CHECKS.sentence("for column -1 all of the table, whatever the rest says");
        long[] ends = {0, 7, Long.MIN_VALUE, Long.MAX_VALUE};
        int[] bounds = {0, 1, 2, 3, 15, 16, -1, Integer.MIN_VALUE, Integer.MAX_VALUE};
        for (long low : ends) {
            for (int b : bounds) {
                SerialDesk desk = Desks.with(2);
                CHECKS.due("bounds " + b, desk.read(0, 0, -1, low, 3, b), 1);
                CHECKS.due("the same", desk.read(0, 0, -1, 3, low, 0), 1);
                desk.write(1, 0);
                CHECKS.due("it is all", desk.arrow(1, 2), true);
            }
        }
    }

    private static void readTellsHowManyOfThatTable() {
        CHECKS.sentence("how many ranges of that table it has then");
        SerialDesk desk = Desks.with(2);
        desk.read(0, 0, 0, 0, 0, 0);
        desk.read(0, 0, 1, 0, 0, 0);
        CHECKS.due("of another table", desk.read(0, 1, 0, 0, 0, 0), 1);
        CHECKS.due("of another one", desk.read(1, 0, 0, 0, 0, 0), 1);
        CHECKS.due("the third", desk.read(0, 0, 2, 0, 0, 0), 3);
        for (int column = 3; column < 8; column++) {
            desk.read(0, 0, column, 0, 0, 0);
        }
        CHECKS.due("the eighth again", desk.read(0, 0, 7, 0, 0, 0), 8);
        CHECKS.due("the ninth", desk.read(0, 0, 7, 1, 1, 0), 1);
        CHECKS.due("the tenth", desk.read(0, 0, 7, 2, 2, 0), 1);
    }

    private static void readNeedsOneThatRuns() {
        CHECKS.sentence("-1, changing nothing, if none runs there");
        SerialDesk desk = mixed();
        String before = Desks.picture(desk, 6);
        for (int s : Desks.NO_SESSIONS) {
            CHECKS.due("session " + s, desk.read(s, 0, 0, 0, 0, 12), -1);
        }
        CHECKS.due("it committed", desk.read(2, 1, 0, 0, 0, 12), -1);
        CHECKS.due("it was aborted", desk.read(3, 1, 0, 0, 0, 12), -1);
        CHECKS.due("all after that", Desks.picture(desk, 6), before);
        desk.cell(0, 0);
        desk.write(4, 1);
        CHECKS.due("the committed one has no range", desk.arrow(3, 5), false);
        desk.begin(3);
        CHECKS.due("nor has the next one", desk.read(3, 1, 0, 1, 1, 0), 1);
    }

    private static void readNeedsATable() {
        CHECKS.sentence("or table, column or bounds (0 .. 15) are not as said");
        SerialDesk desk = Desks.with(2);
        for (int table : Desks.NO_TABLES) {
            CHECKS.due("table " + table, desk.read(0, table, 0, 0, 0, 12), -1);
            CHECKS.due("all of table " + table, Desks.readAll(desk, 0, table), -1);
        }
        for (int table = 0; table < 8; table++) {
            desk.write(1, table);
            CHECKS.due("no range of " + table, desk.look(2, 5), 0);
            CHECKS.due("the first of " + table, desk.read(0, table, 0, 0, 0, 12), 1);
        }
    }

    private static void readNeedsAColumn() {
        CHECKS.sentence("or table, column or bounds (0 .. 15) are not as said");
        SerialDesk desk = Desks.with(2);
        for (int column = 0; column < 8; column++) {
            desk.cell(column, 0);
        }
        for (int column : Desks.NO_COLUMNS) {
            CHECKS.due("column " + column, desk.read(0, 0, column, 0, 0, 12), -1);
        }
        desk.write(1, 0);
        CHECKS.due("no range", desk.arrow(1, 2), false);
        CHECKS.due("column 7 is the first", desk.read(0, 0, 7, 0, 0, 12), 1);
        Desks.readAll(desk, 0, 1);
        for (int column : Desks.NO_COLUMNS) {
            CHECKS.due("after all, column " + column, desk.read(0, 1, column, 0, 0, 0), -1);
        }
    }

    private static void readNeedsBounds() {
        CHECKS.sentence("or table, column or bounds (0 .. 15) are not as said");
        SerialDesk desk = Desks.with(2);
        desk.cell(0, 0);
        for (int bounds : Desks.NO_BOUNDS) {
            CHECKS.due("bounds " + bounds, desk.read(0, 0, 0, 0, 0, bounds), -1);
        }
        desk.write(1, 0);
        CHECKS.due("no range", desk.arrow(1, 2), false);
        CHECKS.due("bounds 15 are the first", desk.read(0, 0, 0, 0, 0, 15), 1);
        CHECKS.due("bounds 0 are the second", desk.read(0, 0, 0, 0, 0, 0), 2);
        Desks.readAll(desk, 0, 1);
        for (int bounds : Desks.NO_BOUNDS) {
            CHECKS.due("after all, bounds " + bounds, desk.read(0, 1, 0, 0, 0, bounds), -1);
        }
    }

    private static void cellGetsAValue() {
        CHECKS.sentence("A cell of the version in hand gets a value: true");
        SerialDesk desk = new SerialDesk();
        CHECKS.due("while none runs", desk.cell(0, 5), true);
        CHECKS.due("the same again", desk.cell(0, 5), true);
        CHECKS.due("the last column", desk.cell(7, Long.MIN_VALUE), true);
        desk.begin(0);
        desk.begin(1);
        desk.read(0, 0, 7, Long.MIN_VALUE, Long.MIN_VALUE, 0);
        desk.write(1, 0);
        CHECKS.due("it has the value", desk.arrow(1, 2), true);
    }

    private static void cellNeedsAColumn() {
        CHECKS.sentence("false if there is no such column");
        SerialDesk desk = Desks.with(2);
        for (int column = 0; column < 8; column++) {
            desk.read(0, 0, column, 0, 0, 12);
        }
        for (int column : Desks.NO_CELLS) {
            CHECKS.due("cell " + column, desk.cell(column, 1), false);
        }
        desk.write(1, 0);
        CHECKS.due("all are still NULL", desk.arrow(1, 2), false);
    }

    private static void clearMakesAllNull() {
        CHECKS.sentence("All cells of the version in hand are NULL.");
        SerialDesk desk = Desks.with(3);
        Desks.readAll(desk, 2, 0);
        for (int column = 0; column < 8; column++) {
            desk.read(0, 0, column, 0, 0, 12);
            desk.cell(column, column);
        }
        desk.clear();
        desk.write(1, 0);
        CHECKS.due("eight were filled", desk.arrow(1, 2), false);
        desk.clear();
        desk.write(1, 0);
        CHECKS.due("none was filled", desk.arrow(1, 2), false);
        CHECKS.due("it is in all of a table", desk.arrow(3, 2), true);
        desk.cell(7, 0);
        desk.write(1, 0);
        CHECKS.due("a cell after it", desk.arrow(1, 2), true);
    }

    private static void clearChangesNothingElse() {
        CHECKS.sentence("All cells of the version in hand are NULL.");
        SerialDesk desk = mixed();
        desk.read(0, 0, 0, 1, 1, 0);
        String before = Desks.picture(desk, 6);
        desk.clear();
        CHECKS.due("all after that", Desks.picture(desk, 6), before);
        desk.write(4, 0);
        CHECKS.due("the ranges are still there", desk.arrow(1, 5), true);
    }

    private static void writeTellsWhetherDoomed() {
        CHECKS.sentence("writes the version in hand in a table: whether it is doomed then");
        SerialDesk desk = mixed();
        CHECKS.due("no arrow comes", desk.write(4, 7), false);
        CHECKS.due("an arrow, but no danger", desk.write(4, 0), false);
        CHECKS.due("doomed before, no arrow comes", desk.write(1, 7), true);
        Desks.readAll(desk, 5, 1);
        CHECKS.due("an arrow, and danger", desk.write(0, 1), true);
        CHECKS.due("it stays so", desk.write(0, 7), true);
    }

    private static void writeNeedsOneThatRuns() {
        CHECKS.sentence("false, changing nothing, if none runs there");
        SerialDesk desk = mixed();
        String before = Desks.picture(desk, 6);
        for (int s : Desks.NO_SESSIONS) {
            CHECKS.due("session " + s, desk.write(s, 0), false);
        }
        CHECKS.due("it committed", desk.write(2, 0), false);
        CHECKS.due("it was aborted", desk.write(3, 0), false);
        CHECKS.due("all after that", Desks.picture(desk, 6), before);
    }

    private static void writeNeedsATable() {
        CHECKS.sentence("or there is no such table");
        SerialDesk desk = mixed();
        for (int table = 0; table < 8; table++) {
            Desks.readAll(desk, 0, table);
        }
        String before = Desks.picture(desk, 6);
        for (int table : Desks.NO_TABLES) {
            CHECKS.due("table " + table, desk.write(4, table), false);
            CHECKS.due("doomed, table " + table, desk.write(1, table), false);
        }
        CHECKS.due("all after that", Desks.picture(desk, 6), before);
        desk.write(4, 7);
        CHECKS.due("table 7", desk.arrow(1, 5), true);
    }

    private static void missTellsWhetherDoomed() {
        CHECKS.sentence("misses what transaction id did: whether it is doomed then");
        SerialDesk desk = mixed();
        CHECKS.due("an arrow, but no danger", desk.miss(4, 6), false);
        for (int id : ODD) {
            CHECKS.due("doomed before, " + id, desk.miss(1, id), true);
        }
        CHECKS.due("an arrow, and danger", desk.miss(5, 1), true);
        CHECKS.due("it stays so", desk.miss(5, 99), true);
    }

    private static void missNeedsOneThatRuns() {
        CHECKS.sentence("misses what transaction id did: .. false if none runs there");
        SerialDesk desk = mixed();
        String before = Desks.picture(desk, 6);
        for (int s : Desks.NO_SESSIONS) {
            CHECKS.due("session " + s, desk.miss(s, 1), false);
        }
        CHECKS.due("it committed", desk.miss(2, 1), false);
        CHECKS.due("it was aborted", desk.miss(3, 1), false);
        CHECKS.due("all after that", Desks.picture(desk, 6), before);
    }

    private static void commitTellsItsNumber() {
        CHECKS.sentence("commits: which commit it is");
        SerialDesk desk = mixed();
        CHECKS.due("the second", desk.commit(5), 2);
        CHECKS.due("the third", desk.commit(0), 3);
        CHECKS.due("commits", desk.count(2), 3);
        CHECKS.due("the session is free", desk.begin(0), 7);
    }

    private static void commitOfADoomedOne() {
        CHECKS.sentence("0, changing nothing, if it is doomed");
        SerialDesk desk = mixed();
        desk.read(1, 5, 0, 0, 0, 12);
        String before = Desks.picture(desk, 6);
        CHECKS.due("once", desk.commit(1), 0);
        CHECKS.due("twice", desk.commit(1), 0);
        CHECKS.due("all after that", Desks.picture(desk, 6), before);
        CHECKS.due("it has its range", desk.read(1, 5, 1, 0, 0, 12), 2);
        CHECKS.due("the next commit", desk.commit(0), 2);
    }

    private static void commitNeedsOneThatRuns() {
        CHECKS.sentence("commits: .. -1 if none runs there");
        SerialDesk desk = mixed();
        String before = Desks.picture(desk, 6);
        for (int s : Desks.NO_SESSIONS) {
            CHECKS.due("session " + s, desk.commit(s), -1);
        }
        CHECKS.due("it committed", desk.commit(2), -1);
        CHECKS.due("it was aborted", desk.commit(3), -1);
        CHECKS.due("all after that", Desks.picture(desk, 6), before);
    }

    private static void abortEndsIt() {
        CHECKS.sentence("is aborted: true");
        SerialDesk desk = mixed();
        CHECKS.due("one that runs", desk.abort(4), true);
        CHECKS.due("it is not kept", desk.look(5, 0), 0);
        CHECKS.due("no arrow to it", desk.arrow(2, 5), false);
        CHECKS.due("a doomed one", desk.abort(1), true);
        CHECKS.due("kept", desk.count(0), 3);
        CHECKS.due("begun", desk.count(1), 6);
        CHECKS.due("commits", desk.count(2), 1);
        desk.abort(5);
        CHECKS.due("one is kept for the first", desk.count(0), 2);
        desk.abort(0);
        CHECKS.due("the last one ends all", desk.count(0), 0);
    }

    private static void abortNeedsOneThatRuns() {
        CHECKS.sentence("is aborted: .. false if none runs there");
        SerialDesk desk = mixed();
        String before = Desks.picture(desk, 6);
        for (int s : Desks.NO_SESSIONS) {
            CHECKS.due("session " + s, desk.abort(s), false);
        }
        CHECKS.due("it committed", desk.abort(2), false);
        CHECKS.due("it was aborted", desk.abort(3), false);
        CHECKS.due("all after that", Desks.picture(desk, 6), before);
    }

    private static void doomIsFromNowOn() {
        CHECKS.sentence("is doomed from now on, for another reason: true");
        SerialDesk desk = mixed();
        CHECKS.due("one that runs", desk.doom(4), true);
        CHECKS.due("a doomed one", desk.doom(4), true);
        CHECKS.due("it is doomed", desk.look(5, 1), 1);
        CHECKS.due("no other is", desk.look(6, 1), 0);
        CHECKS.due("it runs", desk.look(5, 0), 1);
        desk.commit(5);
        desk.abort(0);
        CHECKS.due("after others ended", desk.commit(4), 0);
        desk.abort(4);
        desk.begin(4);
        CHECKS.due("the session's next is not", desk.commit(4), 3);
    }

    private static void doomNeedsOneThatRuns() {
        CHECKS.sentence("is doomed from now on: .. false if none runs there");
        SerialDesk desk = mixed();
        String before = Desks.picture(desk, 6);
        for (int s : Desks.NO_SESSIONS) {
            CHECKS.due("session " + s, desk.doom(s), false);
        }
        CHECKS.due("it committed", desk.doom(2), false);
        CHECKS.due("it was aborted", desk.doom(3), false);
        CHECKS.due("all after that", Desks.picture(desk, 6), before);
        desk.begin(3);
        CHECKS.due("the session's next is not doomed", desk.look(7, 1), 0);
    }

    private static void lookWhetherKept() {
        CHECKS.sentence("0 whether it is kept (1 it runs, 2 it has committed, 0 not kept)");
        SerialDesk desk = mixed();
        CHECKS.due("runs", desk.look(1, 0), 1);
        CHECKS.due("is doomed", desk.look(2, 0), 1);
        CHECKS.due("has committed", desk.look(3, 0), 2);
        CHECKS.due("was aborted", desk.look(4, 0), 0);
        CHECKS.due("has not begun", desk.look(7, 0), 0);
    }

    private static void lookWhetherDoomed() {
        CHECKS.sentence("1 whether it is doomed (1 or 0)");
        SerialDesk desk = mixed();
        CHECKS.due("runs", desk.look(1, 1), 0);
        CHECKS.due("is doomed", desk.look(2, 1), 1);
        CHECKS.due("has committed", desk.look(3, 1), 0);
        desk.doom(4);
        desk.abort(4);
        CHECKS.due("was doomed and is aborted", desk.look(5, 1), 0);
    }

    private static void lookCommitsAtBegin() {
        CHECKS.sentence("2 how many commits there were when it began");
        SerialDesk desk = mixed();
        CHECKS.due("none", desk.look(1, 2), 0);
        desk.begin(2);
        CHECKS.due("one", desk.look(7, 2), 1);
        desk.commit(5);
        CHECKS.due("those after it do not count", desk.look(7, 2), 1);
        desk.begin(5);
        desk.commit(5);
        CHECKS.due("of a committed one, its own not", desk.look(8, 2), 2);
    }

    private static void lookItsCommit() {
        CHECKS.sentence("3 which commit it was (0 while it runs)");
        SerialDesk desk = mixed();
        CHECKS.due("runs", desk.look(1, 3), 0);
        CHECKS.due("the first", desk.look(3, 3), 1);
        desk.commit(1);
        CHECKS.due("refused", desk.look(2, 3), 0);
        desk.commit(4);
        CHECKS.due("the second", desk.look(5, 3), 2);
        CHECKS.due("the first still", desk.look(3, 3), 1);
    }

    private static void lookFirstCommitPointedAt() {
        CHECKS.sentence("4 the first commit of those to which an arrow of it goes (0 for none)");
        SerialDesk desk = Desks.with(6);
        CHECKS.due("no arrow", desk.look(1, 4), 0);
        desk.miss(0, 4);
        desk.miss(0, 5);
        CHECKS.due("only to such as run", desk.look(1, 4), 0);
        desk.commit(1);
        desk.commit(2);
        CHECKS.due("commits without an arrow", desk.look(1, 4), 0);
        desk.commit(4);
        CHECKS.due("the third", desk.look(1, 4), 3);
        desk.commit(3);
        CHECKS.due("the fourth is later", desk.look(1, 4), 3);
        desk.miss(0, 3);
        CHECKS.due("the second is earlier", desk.look(1, 4), 2);
        desk.miss(0, 4);
        CHECKS.due("the fourth again", desk.look(1, 4), 2);
        desk.miss(0, 2);
        CHECKS.due("the first", desk.look(1, 4), 1);
        desk.begin(1);
        desk.commit(5);
        desk.commit(0);
        CHECKS.due("those are not kept", desk.look(2, 0), 0);
        CHECKS.due("the first still", desk.look(1, 4), 1);
    }

    private static void lookArrowsToIt() {
        CHECKS.sentence("5 how many kept ones have an arrow to it");
        SerialDesk desk = Desks.with(6);
        CHECKS.due("none", desk.look(1, 5), 0);
        for (int s = 1; s < 6; s++) {
            desk.miss(s, 1);
            CHECKS.due("more and more", desk.look(1, 5), s);
        }
        desk.commit(1);
        CHECKS.due("a committed one counts", desk.look(1, 5), 5);
        desk.abort(2);
        CHECKS.due("an aborted one does not", desk.look(1, 5), 4);
        desk.miss(0, 4);
        CHECKS.due("its own arrows do not", desk.look(1, 5), 4);
    }

    private static void lookWithAnotherWhat() {
        CHECKS.sentence("-1 for another what");
        SerialDesk desk = mixed();
        int[] others = {-1, 6, 7, Integer.MIN_VALUE, Integer.MAX_VALUE};
        for (int what : others) {
            CHECKS.due("of one that runs, " + what, desk.look(1, what), -1);
            CHECKS.due("of one that committed, " + what, desk.look(3, what), -1);
            CHECKS.due("of one that is not kept, " + what, desk.look(4, what), -1);
        }
    }

    private static void lookAtOneNotKept() {
        CHECKS.sentence("0 for all if it is not kept");
        SerialDesk desk = Desks.with(1);
        desk.commit(0);
        for (int s = 0; s < 3; s++) {
            desk.begin(s);
        }
        desk.miss(0, 3);
        desk.miss(2, 3);
        desk.commit(1);
        desk.doom(2);
        for (int what = 0; what < 6; what++) {
            int largest = Math.max(desk.look(3, what), desk.look(4, what));
            CHECKS.due("while kept, " + what, largest > 0, true);
        }
        desk.abort(2);
        desk.commit(0);
        int[] ids = {1, 2, 3, 4, 5, 0, -1, Integer.MIN_VALUE, Integer.MAX_VALUE};
        for (int id : ids) {
            for (int what = 0; what < 6; what++) {
                CHECKS.due("look at " + id + ", " + what, desk.look(id, what), 0);
            }
        }
    }

    private static void arrowOfTwoKept() {
        CHECKS.sentence("Whether there is an arrow a -> b");
        SerialDesk desk = mixed();
        CHECKS.due("from one that runs to a committed one", desk.arrow(1, 3), true);
        CHECKS.due("from a doomed one", desk.arrow(2, 5), true);
        CHECKS.due("the other way", desk.arrow(3, 1), false);
        CHECKS.due("none was drawn", desk.arrow(1, 5), false);
        CHECKS.due("to itself", desk.arrow(1, 1), false);
    }

    private static void arrowNeedsBothKept() {
        CHECKS.sentence("false if they are not both kept");
        SerialDesk second = Desks.with(2);
        second.miss(0, 2);
        second.commit(1);
        second.begin(1);
        CHECKS.due("both are", second.arrow(1, 2), true);
        second.commit(0);
        CHECKS.due("the second is not", second.arrow(1, 2), false);
        CHECKS.due("the first is", second.look(1, 0), 2);
        SerialDesk first = Desks.with(2);
        first.miss(0, 2);
        first.commit(0);
        first.begin(0);
        CHECKS.due("both are", first.arrow(1, 2), true);
        first.commit(1);
        CHECKS.due("the first is not", first.arrow(1, 2), false);
        CHECKS.due("the second is", first.look(2, 0), 2);
        for (int id : new int[] {0, -1, 9, Integer.MIN_VALUE, Integer.MAX_VALUE}) {
            CHECKS.due("from " + id, first.arrow(id, 2), false);
            CHECKS.due("to " + id, first.arrow(2, id), false);
            CHECKS.due("from and to " + id, first.arrow(id, id), false);
        }
    }

    private static void ringsAreNone() {
        CHECKS.sentence("(There are none; who keeps no such books may answer 0.)");
        SerialDesk desk = new SerialDesk();
        CHECKS.due("of a new object", desk.rings(), 0);
        for (int s = 0; s < 6; s++) {
            desk.begin(s);
        }
        for (int s = 0; s < 6; s++) {
            desk.miss(s, (s + 1) % 6 + 1);
        }
        CHECKS.due("a ring of six that run", desk.rings(), 0);
        for (int s = 0; s < 6; s++) {
            desk.commit(s);
        }
        CHECKS.due("after their commits", desk.rings(), 0);
        CHECKS.due("one of the six is doomed", desk.look(6, 1), 1);
        CHECKS.due("five committed", desk.count(2), 5);
    }

    private static void countKept() {
        CHECKS.sentence("0 how many are kept");
        SerialDesk desk = mixed();
        CHECKS.due("four run, one committed", desk.count(0), 5);
        CHECKS.due("64 at most", Desks.withCommitted(64).count(0), 64);
        desk.commit(0);
        desk.commit(4);
        desk.commit(5);
        CHECKS.due("a commit changes nothing", desk.count(0), 5);
        desk.abort(1);
        CHECKS.due("but the last that runs", desk.count(0), 0);
    }

    private static void countBegun() {
        CHECKS.sentence("1 how many began in all");
        SerialDesk desk = mixed();
        CHECKS.due("aborted ones too", desk.count(1), 6);
        desk.begin(0);
        desk.begin(6);
        CHECKS.due("refused ones not", desk.count(1), 6);
        desk.begin(2);
        CHECKS.due("one more", desk.count(1), 7);
    }

    private static void countCommits() {
        CHECKS.sentence("2 how many commits there were");
        SerialDesk desk = mixed();
        CHECKS.due("aborted ones not", desk.count(2), 1);
        desk.commit(1);
        desk.commit(2);
        desk.commit(6);
        CHECKS.due("refused ones not", desk.count(2), 1);
        desk.commit(0);
        CHECKS.due("one more", desk.count(2), 2);
        desk.abort(1);
        desk.abort(4);
        desk.commit(5);
        CHECKS.due("those not kept too", desk.count(2), 3);
    }

    private static void countWithAnotherWhat() {
        CHECKS.sentence("-1 for another what");
        SerialDesk desk = mixed();
        int[] others = {-1, 3, 4, Integer.MIN_VALUE, Integer.MAX_VALUE};
        for (int what : others) {
            CHECKS.due("count " + what, desk.count(what), -1);
            CHECKS.due("of a new object, " + what, new SerialDesk().count(what), -1);
        }
    }
}
