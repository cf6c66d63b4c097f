/**
 * The edges under "What it is" and, under "Terms", those of sessions, transactions, ranges and
 * versions: a test for each sentence that names one. DangerEdgesTest has the rest of "Terms".
 */
public final class TermsEdgesTest {
    private static final Checks CHECKS = new Checks("TermsEdgesTest");
    private static final long LEAST = Long.MIN_VALUE;
    private static final long MOST = Long.MAX_VALUE;

    public static void main(String[] args) {
        answersHoldUpToThe512thCall();
        sessionsAreZeroToFive();
        idsGoByTheOrderOfBeginning();
        transactionRunsOrCommittedOrWasAborted();
        commitsAreNumberedFromOne();
        concurrentEndsWithACommitBeforeTheBegin();
        concurrentBeginsWithABeginBeforeTheCommit();
        keptAloneEndsWithItsCommit();
        keptNeedsOneThatBeganBefore();
        keptEndsWithTheLastThatBeganBefore();
        keptByOneThatCannotCommit();
        atMost64AreKept();
        at64KeptAllElseGoesOn();
        tablesAreZeroToSeven();
        columnsOfRangesAreMinusOneToSeven();
        bound1LeavesTheLowOneOut();
        bound2LeavesTheHighOneOut();
        bound4TakesTheLowOneAway();
        bound8TakesTheHighOneAway();
        boundsAreSums();
        rangesWithNothingInThem();
        boundsAtTheEndsOfLong();
        sameRanges();
        sameRangesAsFarAsThereAreBounds();
        rangesStayWhileKept();
        rangesGoWithTheTransaction();
        ofATableAtMostEight();
        oneThatItHasAddsNone();
        ninthMakesAllTheOnlyRange();
        ninthLeavesAllElse();
        whoHasAllGetsNoOther();
        versionHasEightCells();
        cellIsALong();
        cellsAreNullAtFirst();
        oneVersionIsInHand();
        nullIsInAllOfATableAlone();
        CHECKS.end();
    }

    private static void answersHoldUpToThe512thCall() {
        CHECKS.sentence("An object is used for at most 512 calls after it has been made");
        SerialDesk aborts = new SerialDesk();
        SerialDesk commits = new SerialDesk();
        for (int i = 1; i <= 256; i++) {
            CHECKS.due("begin " + i, aborts.begin(i % 6), i);
            CHECKS.due("abort " + i, aborts.abort(i % 6), true);
            CHECKS.due("begin " + i, commits.begin(i % 6), i);
            CHECKS.due("commit " + i, commits.commit(i % 6), i);
        }
        SerialDesk writes = Desks.with(2);
        Desks.readAll(writes, 0, 7);
        for (int i = 3; i < 510; i++) {
            writes.write(1, i % 7);
        }
        CHECKS.due("call 511", writes.write(1, 7), false);
        CHECKS.due("call 512", writes.arrow(1, 2), true);
    }

    private static void sessionsAreZeroToFive() {
        CHECKS.sentence("A SESSION is 0 .. 5.");
        for (int s = 0; s <= 5; s++) {
            int other = (s + 1) % 6;
            SerialDesk desk = new SerialDesk();
            CHECKS.due("begin in " + s, desk.begin(s), 1);
            desk.begin(other);
            CHECKS.due("read in " + s, Desks.readAll(desk, s, 0), 1);
            desk.miss(s, 2);
            CHECKS.due("miss in " + s, desk.arrow(1, 2), true);
            Desks.readAll(desk, other, 1);
            desk.write(s, 1);
            CHECKS.due("write in " + s, desk.arrow(2, 1), true);
            CHECKS.due("commit in " + s, desk.commit(s), 1);
            CHECKS.due("begin again in " + s, desk.begin(s), 3);
            CHECKS.due("doom in " + s, desk.doom(s), true);
            CHECKS.due("abort in " + s, desk.abort(s), true);
        }
        SerialDesk all = Desks.with(6);
        String before = Desks.picture(all, 6);
        for (int s : Desks.NO_SESSIONS) {
            CHECKS.due("begin in " + s, all.begin(s), -1);
            CHECKS.due("read in " + s, Desks.readAll(all, s, 0), -1);
            CHECKS.due("write in " + s, all.write(s, 0), false);
            CHECKS.due("miss in " + s, all.miss(s, 1), false);
            CHECKS.due("commit in " + s, all.commit(s), -1);
            CHECKS.due("abort in " + s, all.abort(s), false);
            CHECKS.due("doom in " + s, all.doom(s), false);
        }
        CHECKS.due("all after that", Desks.picture(all, 6), before);
    }

    private static void idsGoByTheOrderOfBeginning() {
        CHECKS.sentence("an ID, 1, 2, .. in the order in which they begin");
        SerialDesk desk = new SerialDesk();
        CHECKS.due("first, in session 5", desk.begin(5), 1);
        CHECKS.due("second, in session 0", desk.begin(0), 2);
        CHECKS.due("a refused one", desk.begin(0), -1);
        CHECKS.due("a refused one", desk.begin(6), -1);
        CHECKS.due("after refused ones", desk.begin(1), 3);
        desk.abort(1);
        CHECKS.due("after an abort", desk.begin(1), 4);
        desk.abort(1);
        desk.abort(0);
        desk.commit(5);
        CHECKS.due("none is kept", desk.count(0), 0);
        CHECKS.due("when none is kept", desk.begin(3), 5);
        CHECKS.due("by its id", desk.look(5, 0), 1);
    }

    private static void transactionRunsOrCommittedOrWasAborted() {
        CHECKS.sentence("it RUNS in a session, or has COMMITTED, or was aborted");
        SerialDesk desk = Desks.with(3);
        desk.commit(1);
        desk.abort(2);
        CHECKS.due("runs", desk.look(1, 0), 1);
        CHECKS.due("has committed", desk.look(2, 0), 2);
        CHECKS.due("was aborted", desk.look(3, 0), 0);
        CHECKS.due("the committed one in its session", desk.abort(1), false);
        CHECKS.due("the aborted one in its session", desk.commit(2), -1);
    }

    private static void commitsAreNumberedFromOne() {
        CHECKS.sentence("COMMITS are numbered 1, 2, ..");
        SerialDesk desk = Desks.with(6);
        CHECKS.due("first", desk.commit(4), 1);
        CHECKS.due("none runs there", desk.commit(4), -1);
        desk.abort(0);
        desk.doom(1);
        CHECKS.due("a doomed one", desk.commit(1), 0);
        CHECKS.due("after those", desk.commit(3), 2);
        CHECKS.due("its number", desk.look(4, 3), 2);
        CHECKS.due("the first one's number", desk.look(5, 3), 1);
        desk.abort(1);
        desk.commit(2);
        CHECKS.due("the last one", desk.commit(5), 4);
        CHECKS.due("none is kept", desk.count(0), 0);
        desk.begin(0);
        CHECKS.due("when none is kept", desk.commit(0), 5);
    }

    private static void concurrentEndsWithACommitBeforeTheBegin() {
        CHECKS.sentence("CONCURRENT if neither had committed when the other one began");
        SerialDesk desk = Desks.with(2);
        Desks.readAll(desk, 1, 0);
        desk.commit(1);
        desk.begin(1);
        desk.miss(1, 2);
        CHECKS.due("began right after the commit, missing", desk.arrow(3, 2), false);
        desk.write(1, 0);
        CHECKS.due("began right after the commit, writing", desk.arrow(2, 3), false);
        CHECKS.due("no commit of it is pointed at", desk.look(3, 4), 0);
        desk.miss(0, 2);
        CHECKS.due("began long before", desk.arrow(1, 2), true);
    }

    private static void concurrentBeginsWithABeginBeforeTheCommit() {
        CHECKS.sentence("CONCURRENT if neither had committed when the other one began");
        SerialDesk desk = Desks.with(2);
        desk.commit(0);
        Desks.readAll(desk, 1, 0);
        desk.begin(2);
        desk.commit(1);
        desk.miss(2, 2);
        CHECKS.due("began right before the commit, missing", desk.arrow(3, 2), true);
        desk.write(2, 0);
        CHECKS.due("began right before the commit, writing", desk.arrow(2, 3), true);
        SerialDesk run = Desks.with(1);
        run.begin(3);
        run.miss(3, 1);
        run.miss(0, 2);
        CHECKS.due("both run, the later one misses", run.arrow(2, 1), true);
        CHECKS.due("both run, the earlier one misses", run.arrow(1, 2), true);
    }

    private static void keptAloneEndsWithItsCommit() {
        CHECKS.sentence("KEPT are those that run");
        SerialDesk desk = new SerialDesk();
        desk.begin(0);
        CHECKS.due("it runs", desk.look(1, 0), 1);
        CHECKS.due("how many", desk.count(0), 1);
        desk.commit(0);
        CHECKS.due("it committed alone", desk.look(1, 0), 0);
        CHECKS.due("how many", desk.count(0), 0);
        desk.begin(0);
        desk.abort(0);
        CHECKS.due("it was aborted alone", desk.count(0), 0);
        desk.begin(0);
        desk.begin(1);
        desk.abort(0);
        CHECKS.due("it was aborted beside one that runs", desk.look(3, 0), 0);
    }

    private static void keptNeedsOneThatBeganBefore() {
        CHECKS.sentence("each committed one as long as one runs that began before its commit");
        SerialDesk before = Desks.with(1);
        before.begin(1);
        before.commit(0);
        CHECKS.due("one began right before the commit", before.look(1, 0), 2);
        SerialDesk after = Desks.with(2);
        after.commit(0);
        after.begin(0);
        after.commit(1);
        CHECKS.due("one began right after the first commit", after.look(1, 0), 0);
        CHECKS.due("the same began before the second", after.look(2, 0), 2);
        CHECKS.due("how many", after.count(0), 2);
    }

    private static void keptEndsWithTheLastThatBeganBefore() {
        CHECKS.sentence("each committed one as long as one runs that began before its commit");
        for (int ending = 0; ending < 2; ending++) {
            SerialDesk desk = Desks.with(3);
            desk.commit(2);
            desk.begin(2);
            desk.abort(0);
            CHECKS.due("one of two is left", desk.look(3, 0), 2);
            if (ending == 0) {
                desk.abort(1);
            } else {
                desk.commit(1);
            }
            CHECKS.due("none is left", desk.look(3, 0), 0);
            CHECKS.due("none of its fields is told", desk.look(3, 3), 0);
            CHECKS.due("how many", desk.count(0), 1 + ending);
        }
    }

    private static void keptByOneThatCannotCommit() {
        CHECKS.sentence("each committed one as long as one runs that began before its commit");
        SerialDesk desk = Desks.with(2);
        desk.commit(1);
        desk.doom(0);
        CHECKS.due("the commit is refused", desk.commit(0), 0);
        CHECKS.due("so it still runs", desk.look(2, 0), 2);
        desk.abort(0);
        CHECKS.due("till it is aborted", desk.look(2, 0), 0);
    }

    private static void atMost64AreKept() {
        CHECKS.sentence("At most 64 are kept.");
        SerialDesk desk = Desks.withCommitted(58);
        for (int s = 1; s < 6; s++) {
            CHECKS.due("begin up to 64", desk.begin(s), 59 + s);
        }
        CHECKS.due("how many", desk.count(0), 64);
        desk.commit(5);
        CHECKS.due("a commit frees none", desk.count(0), 64);
        CHECKS.due("the 65th", desk.begin(5), -1);
        desk.abort(4);
        CHECKS.due("an abort frees one", desk.begin(5), 65);
        CHECKS.due("and no more", desk.begin(4), -1);
        desk.commit(0);
        CHECKS.due("the eldest frees all but six", desk.count(0), 6);
        for (int id = 1; id <= 65; id++) {
            boolean kept = id == 1 || id >= 60 && id != 63;
            CHECKS.due("kept is " + id, desk.look(id, 0) != 0, kept);
        }
    }

    private static void at64KeptAllElseGoesOn() {
        CHECKS.sentence("At most 64 are kept.");
        SerialDesk desk = Desks.withCommitted(62);
        desk.begin(1);
        CHECKS.due("read", Desks.readAll(desk, 1, 0), 1);
        CHECKS.due("write", desk.write(0, 0), false);
        CHECKS.due("arrow from the last", desk.arrow(64, 1), true);
        CHECKS.due("miss the last", desk.miss(0, 64), false);
        CHECKS.due("arrow to the last", desk.arrow(1, 64), true);
        CHECKS.due("the last commits", desk.commit(1), 63);
        CHECKS.due("and is kept", desk.look(64, 0), 2);
        CHECKS.due("the eldest is doomed by it", desk.commit(0), 0);
        CHECKS.due("it is aborted", desk.abort(0), true);
        CHECKS.due("how many", desk.count(0), 0);
    }

    private static void tablesAreZeroToSeven() {
        CHECKS.sentence("A RANGE of a table 0 .. 7");
        for (int table = 0; table <= 7; table++) {
            SerialDesk desk = Desks.with(2);
            CHECKS.due("read of table " + table, Desks.readAll(desk, 0, table), 1);
            for (int other = 0; other <= 7; other++) {
                if (other != table) {
                    desk.write(1, other);
                }
            }
            CHECKS.due("writes in all others", desk.arrow(1, 2), false);
            desk.write(1, table);
            CHECKS.due("write in table " + table, desk.arrow(1, 2), true);
        }
        SerialDesk none = Desks.with(2);
        for (int table : Desks.NO_TABLES) {
            CHECKS.due("read of table " + table, Desks.readAll(none, 0, table), -1);
            CHECKS.due("write in table " + table, none.write(1, table), false);
        }
        CHECKS.due("no arrow", none.look(2, 5), 0);
    }

    private static void columnsOfRangesAreMinusOneToSeven() {
        CHECKS.sentence("all of it (column -1), or of a column 0 .. 7");
        for (int column = 0; column <= 7; column++) {
            SerialDesk desk = Desks.with(2);
            CHECKS.due("column " + column, desk.read(0, 0, column, 0, 0, 12), 1);
            for (int other = 0; other <= 7; other++) {
                if (other != column) {
                    desk.cell(other, 0);
                }
            }
            desk.write(1, 0);
            CHECKS.due("all other columns", desk.arrow(1, 2), false);
            desk.cell(column, 0);
            desk.write(1, 0);
            CHECKS.due("its column", desk.arrow(1, 2), true);
        }
        SerialDesk none = Desks.with(1);
        for (int column : Desks.NO_COLUMNS) {
            CHECKS.due("column " + column, none.read(0, 0, column, 0, 0, 0), -1);
        }
        CHECKS.due("column -1", none.read(0, 0, -1, 0, 0, 0), 1);
    }

    private static void bound1LeavesTheLowOneOut() {
        CHECKS.sentence("1 the low bound is not in it");
        CHECKS.due("low with 0", Desks.hits(0, 10, 20, 10), true);
        CHECKS.due("low with 1", Desks.hits(1, 10, 20, 10), false);
        CHECKS.due("one above low with 1", Desks.hits(1, 10, 20, 11), true);
        CHECKS.due("high with 1", Desks.hits(1, 10, 20, 20), true);
        CHECKS.due("one below low with 0", Desks.hits(0, 10, 20, 9), false);
    }

    private static void bound2LeavesTheHighOneOut() {
        CHECKS.sentence("2 the high one is not");
        CHECKS.due("high with 0", Desks.hits(0, 10, 20, 20), true);
        CHECKS.due("high with 2", Desks.hits(2, 10, 20, 20), false);
        CHECKS.due("one below high with 2", Desks.hits(2, 10, 20, 19), true);
        CHECKS.due("low with 2", Desks.hits(2, 10, 20, 10), true);
        CHECKS.due("one above high with 0", Desks.hits(0, 10, 20, 21), false);
    }

    private static void bound4TakesTheLowOneAway() {
        CHECKS.sentence("4 there is no low bound");
        CHECKS.due("below low", Desks.hits(4, 10, 20, 9), true);
        CHECKS.due("the least long", Desks.hits(4, 10, 20, LEAST), true);
        CHECKS.due("at high", Desks.hits(4, 10, 20, 20), true);
        CHECKS.due("above high", Desks.hits(4, 10, 20, 21), false);
        CHECKS.due("low, though 1 leaves it out", Desks.hits(5, 10, 20, 10), true);
        CHECKS.due("a low above high", Desks.hits(4, 30, 20, 15), true);
    }

    private static void bound8TakesTheHighOneAway() {
        CHECKS.sentence("8 there is no high one");
        CHECKS.due("above high", Desks.hits(8, 10, 20, 21), true);
        CHECKS.due("the greatest long", Desks.hits(8, 10, 20, MOST), true);
        CHECKS.due("at low", Desks.hits(8, 10, 20, 10), true);
        CHECKS.due("below low", Desks.hits(8, 10, 20, 9), false);
        CHECKS.due("high, though 2 leaves it out", Desks.hits(10, 10, 20, 20), true);
        CHECKS.due("a high below low", Desks.hits(8, 10, 5, 15), true);
    }

    private static void boundsAreSums() {
        CHECKS.sentence("with BOUNDS, the sum of");
        for (int bounds = 0; bounds <= 15; bounds++) {
            boolean lowIn = bounds % 2 == 0;
            boolean highIn = bounds / 2 % 2 == 0;
            boolean low = bounds / 4 % 2 == 0;
            boolean high = bounds / 8 == 0;
            CHECKS.due(bounds + " far below", Desks.hits(bounds, -3, 3, LEAST), !low);
            CHECKS.due(bounds + " at low", Desks.hits(bounds, -3, 3, -3), !low || lowIn);
            CHECKS.due(bounds + " between", Desks.hits(bounds, -3, 3, 0), true);
            CHECKS.due(bounds + " at high", Desks.hits(bounds, -3, 3, 3), !high || highIn);
            CHECKS.due(bounds + " far above", Desks.hits(bounds, -3, 3, MOST), !high);
        }
    }

    private static void rangesWithNothingInThem() {
        CHECKS.sentence("from a low to a high bound");
        CHECKS.due("one value", Desks.hits(0, 5, 5, 5), true);
        CHECKS.due("one value, low out", Desks.hits(1, 5, 5, 5), false);
        CHECKS.due("one value, high out", Desks.hits(2, 5, 5, 5), false);
        CHECKS.due("one value, both out", Desks.hits(3, 5, 5, 5), false);
        CHECKS.due("two values, both out, low", Desks.hits(3, 5, 6, 5), false);
        CHECKS.due("two values, both out, high", Desks.hits(3, 5, 6, 6), false);
        CHECKS.due("low above high, between", Desks.hits(0, 6, 4, 5), false);
        CHECKS.due("low above high, low", Desks.hits(0, 6, 4, 6), false);
        CHECKS.due("low above high, high", Desks.hits(0, 6, 4, 4), false);
        CHECKS.due("such a range counts", Desks.with(1).read(0, 0, 0, 6, 4, 3), 1);
    }

    private static void boundsAtTheEndsOfLong() {
        CHECKS.sentence("from a low to a high bound");
        CHECKS.due("least in", Desks.hits(0, LEAST, LEAST, LEAST), true);
        CHECKS.due("most in", Desks.hits(0, MOST, MOST, MOST), true);
        CHECKS.due("least out", Desks.hits(1, LEAST, MOST, LEAST), false);
        CHECKS.due("above least", Desks.hits(1, LEAST, MOST, LEAST + 1), true);
        CHECKS.due("most out", Desks.hits(2, LEAST, MOST, MOST), false);
        CHECKS.due("below most", Desks.hits(2, LEAST, MOST, MOST - 1), true);
        CHECKS.due("above most is nothing", Desks.hits(9, MOST, 0, LEAST), false);
        CHECKS.due("above most is nothing", Desks.hits(9, MOST, 0, MOST), false);
        CHECKS.due("below least is nothing", Desks.hits(6, 0, LEAST, MOST), false);
        CHECKS.due("below least is nothing", Desks.hits(6, 0, LEAST, LEAST), false);
        CHECKS.due("far below low", Desks.hits(0, MOST - 1, MOST, LEAST), false);
        CHECKS.due("far above high", Desks.hits(0, LEAST, LEAST + 1, MOST), false);
        CHECKS.due("2^32 beside", Desks.hits(0, 1, 1, 1 + (1L << 32)), false);
    }

    private static void sameRanges() {
        CHECKS.sentence("same with the same column, the same bounds, and the same low and high");
        SerialDesk desk = Desks.with(2);
        desk.read(0, 0, 1, 5, 9, 0);
        CHECKS.due("the same", desk.read(0, 0, 1, 5, 9, 0), 1);
        CHECKS.due("another column", desk.read(0, 0, 0, 5, 9, 0), 2);
        CHECKS.due("other bounds", desk.read(0, 0, 1, 5, 9, 3), 3);
        CHECKS.due("another low", desk.read(0, 0, 1, 6, 9, 0), 4);
        CHECKS.due("another high", desk.read(0, 0, 1, 5, 10, 0), 5);
        CHECKS.due("a low 2^32 beside", desk.read(0, 0, 1, 5 + (1L << 32), 9, 0), 6);
        CHECKS.due("a high 2^32 beside", desk.read(0, 0, 1, 5, 9 + (1L << 32), 0), 7);
        CHECKS.due("the first again", desk.read(0, 0, 1, 5, 9, 0), 7);
        CHECKS.due("of another table", desk.read(0, 1, 1, 5, 9, 0), 1);
        CHECKS.due("of another transaction", desk.read(1, 0, 1, 5, 9, 0), 1);
    }

    private static void sameRangesAsFarAsThereAreBounds() {
        CHECKS.sentence("as far as there are such");
        SerialDesk desk = Desks.with(1);
        desk.read(0, 0, 1, 5, 9, 4);
        CHECKS.due("no low, another low", desk.read(0, 0, 1, MOST, 9, 4), 1);
        CHECKS.due("no low, another high", desk.read(0, 0, 1, 5, 8, 4), 2);
        desk.read(0, 1, 1, 5, 9, 8);
        CHECKS.due("no high, another high", desk.read(0, 1, 1, 5, LEAST, 8), 1);
        CHECKS.due("no high, another low", desk.read(0, 1, 1, 4, 9, 8), 2);
        desk.read(0, 2, 1, 5, 9, 12);
        CHECKS.due("neither, both others", desk.read(0, 2, 1, 9, 5, 12), 1);
        CHECKS.due("neither, another column", desk.read(0, 2, 2, 5, 9, 12), 2);
        desk.read(0, 3, 1, 5, 9, 4);
        CHECKS.due("no low, or one", desk.read(0, 3, 1, 5, 9, 0), 2);
        CHECKS.due("no high, or one", desk.read(0, 3, 1, 5, 9, 8), 3);
        desk.read(0, 4, -1, 5, 9, 0);
        CHECKS.due("all of it has neither", desk.read(0, 4, -1, 4, 8, 3), 1);
    }

    private static void rangesStayWhileKept() {
        CHECKS.sentence("READS ranges, which stay as long as it is kept");
        SerialDesk desk = Desks.with(3);
        desk.read(0, 0, 0, 0, 9, 0);
        desk.cell(0, 4);
        desk.commit(0);
        desk.write(1, 0);
        CHECKS.due("after its commit", desk.arrow(1, 2), true);
        desk.abort(1);
        desk.write(2, 0);
        CHECKS.due("till the last that keeps it", desk.arrow(1, 3), true);
    }

    private static void rangesGoWithTheTransaction() {
        CHECKS.sentence("READS ranges, which stay as long as it is kept");
        SerialDesk desk = Desks.with(2);
        Desks.readAll(desk, 0, 0);
        desk.abort(0);
        desk.begin(0);
        desk.write(1, 0);
        CHECKS.due("an aborted one's", desk.look(2, 5), 0);
        Desks.readAll(desk, 1, 0);
        desk.commit(1);
        desk.commit(0);
        desk.begin(0);
        desk.begin(1);
        desk.write(1, 0);
        CHECKS.due("those of one not kept any more", desk.look(5, 5), 0);
        CHECKS.due("the session's next begins with none", desk.read(0, 0, 1, 0, 0, 0), 1);
    }

    private static void ofATableAtMostEight() {
        CHECKS.sentence("of a table at most 8");
        SerialDesk desk = Desks.with(6);
        for (int s = 0; s < 6; s++) {
            for (int i = 0; i < 64; i++) {
                int got = desk.read(s, i % 8, i / 8, i, i, 0);
                CHECKS.due("range " + i + " in session " + s, got, i / 8 + 1);
            }
        }
        SerialDesk hit = Desks.with(2);
        Desks.readEight(hit, 0, 0);
        for (int column = 0; column < 8; column++) {
            hit.begin(2);
            hit.clear();
            hit.cell(column, column);
            hit.write(2, 0);
            CHECKS.due("each of eight is heeded", hit.arrow(1, column + 3), true);
            hit.abort(2);
        }
    }

    private static void oneThatItHasAddsNone() {
        CHECKS.sentence("one that it has already adds none");
        SerialDesk desk = Desks.with(2);
        for (int column = 0; column < 8; column++) {
            CHECKS.due("new", desk.read(0, 0, column, column, column, 0), column + 1);
            CHECKS.due("the first", desk.read(0, 0, 0, 0, 0, 0), column + 1);
            CHECKS.due("the last", desk.read(0, 0, column, column, column, 0), column + 1);
        }
        for (int column = 0; column < 8; column++) {
            CHECKS.due("with eight", desk.read(0, 0, column, column, column, 0), 8);
        }
        desk.write(1, 0);
        CHECKS.due("so it has not all", desk.arrow(1, 2), false);
    }

    private static void ninthMakesAllTheOnlyRange() {
        CHECKS.sentence("a ninth one makes all of the table its only range of it");
        SerialDesk desk = Desks.with(2);
        Desks.readEight(desk, 0, 7);
        desk.write(1, 7);
        CHECKS.due("eight are not all", desk.arrow(1, 2), false);
        CHECKS.due("the ninth", desk.read(0, 7, 0, 99, 99, 0), 1);
        desk.write(1, 7);
        CHECKS.due("now it has all", desk.arrow(1, 2), true);
        SerialDesk all = Desks.with(1);
        Desks.readEight(all, 0, 0);
        CHECKS.due("all as the ninth", Desks.readAll(all, 0, 0), 1);
        SerialDesk empty = Desks.with(1);
        Desks.readEight(empty, 0, 0);
        CHECKS.due("an empty one as the ninth", empty.read(0, 0, 0, 2, 1, 3), 1);
    }

    private static void ninthLeavesAllElse() {
        CHECKS.sentence("a ninth one makes all of the table its only range of it");
        SerialDesk desk = Desks.with(3);
        Desks.readEight(desk, 0, 0);
        Desks.readEight(desk, 0, 1);
        Desks.readEight(desk, 1, 0);
        for (int bounds : Desks.NO_BOUNDS) {
            CHECKS.due("a refused ninth", desk.read(0, 0, 0, 99, 99, bounds), -1);
        }
        CHECKS.due("left eight", desk.read(0, 0, 0, 0, 0, 0), 8);
        CHECKS.due("the ninth", desk.read(0, 0, 0, 99, 99, 0), 1);
        CHECKS.due("the other table's eight", desk.read(0, 1, 0, 0, 0, 0), 8);
        CHECKS.due("the other one's eight", desk.read(1, 0, 0, 0, 0, 0), 8);
        desk.write(2, 1);
        CHECKS.due("not all of the other table", desk.arrow(1, 3), false);
        desk.write(2, 0);
        CHECKS.due("not all for the other one", desk.arrow(2, 3), false);
        CHECKS.due("all for the one", desk.arrow(1, 3), true);
    }

    private static void whoHasAllGetsNoOther() {
        CHECKS.sentence("whoever has all of a table gets no other range of it");
        SerialDesk desk = Desks.with(1);
        Desks.readAll(desk, 0, 0);
        Desks.readEight(desk, 0, 1);
        desk.read(0, 1, 0, 99, 99, 0);
        for (int i = 0; i < 10; i++) {
            CHECKS.due("after all", desk.read(0, 0, i % 8, i, i, 0), 1);
            CHECKS.due("after nine", desk.read(0, 1, i % 8, i, i, 0), 1);
        }
        CHECKS.due("all again", Desks.readAll(desk, 0, 0), 1);
        CHECKS.due("all again after nine", Desks.readAll(desk, 0, 1), 1);
        CHECKS.due("another table", desk.read(0, 2, 0, 0, 0, 0), 1);
        CHECKS.due("all beside another", Desks.readAll(desk, 0, 2), 2);
        CHECKS.due("none after it", desk.read(0, 2, 1, 0, 0, 0), 2);
        for (int column : Desks.NO_COLUMNS) {
            CHECKS.due("still refused", desk.read(0, 0, column, 0, 0, 0), -1);
        }
    }

    private static void versionHasEightCells() {
        CHECKS.sentence("A VERSION has eight cells");
        SerialDesk desk = Desks.with(1);
        for (int column = 0; column < 8; column++) {
            CHECKS.due("cell " + column, desk.cell(column, 100 + column), true);
        }
        for (int column = 0; column < 8; column++) {
            desk.begin(1);
            desk.read(1, 0, column, 100 + column, 100 + column, 0);
            desk.write(0, 0);
            CHECKS.due("value of " + column, desk.look(1, 5), 1);
            desk.abort(1);
        }
        for (int column : Desks.NO_CELLS) {
            CHECKS.due("cell " + column, desk.cell(column, 0), false);
        }
    }

    private static void cellIsALong() {
        CHECKS.sentence("each a value (a long) or NULL");
        long[] values = {0, -1, 1, LEAST, MOST, 1L << 32, Integer.MIN_VALUE, Integer.MAX_VALUE};
        for (long value : values) {
            CHECKS.due(value + " is itself", Desks.hits(0, value, value, value), true);
            CHECKS.due(value + " is not NULL", Desks.hits(12, 0, 0, value), true);
            long other = value ^ 1;
            CHECKS.due(value + " is not another", Desks.hits(0, other, other, value), false);
        }
        SerialDesk desk = Desks.with(2);
        desk.read(0, 0, 0, 1, 1, 0);
        desk.cell(0, 1);
        desk.cell(0, 2);
        desk.write(1, 0);
        CHECKS.due("the last value counts", desk.arrow(1, 2), false);
    }

    private static void cellsAreNullAtFirst() {
        CHECKS.sentence("There is one IN HAND (all NULL at first).");
        SerialDesk desk = Desks.with(2);
        for (int column = 0; column < 8; column++) {
            desk.read(0, 0, column, 0, 0, 12);
        }
        desk.write(1, 0);
        CHECKS.due("in no column", desk.arrow(1, 2), false);
    }

    private static void oneVersionIsInHand() {
        CHECKS.sentence("There is one IN HAND (all NULL at first).");
        SerialDesk desk = new SerialDesk();
        desk.cell(3, 30);
        for (int s = 0; s < 5; s++) {
            desk.begin(s);
        }
        desk.read(0, 0, 3, 30, 30, 0);
        desk.read(0, 1, 3, 30, 30, 0);
        desk.write(1, 0);
        CHECKS.due("set before all began", desk.arrow(1, 2), true);
        desk.commit(1);
        desk.write(2, 0);
        CHECKS.due("after a write and a commit", desk.arrow(1, 3), true);
        desk.abort(2);
        desk.write(3, 1);
        CHECKS.due("after an abort, in another table", desk.arrow(1, 4), true);
        desk.cell(8, 31);
        desk.cell(-1, 31);
        desk.write(4, 1);
        CHECKS.due("after refused cells", desk.arrow(1, 5), true);
    }

    private static void nullIsInAllOfATableAlone() {
        CHECKS.sentence("all of it, or if its cell of the column is not NULL and within");
        SerialDesk desk = Desks.with(3);
        Desks.readAll(desk, 0, 0);
        desk.read(1, 0, 2, LEAST, MOST, 0);
        desk.read(1, 0, 3, 0, 0, 12);
        desk.cell(1, 0);
        desk.cell(4, 0);
        desk.write(2, 0);
        CHECKS.due("all of it", desk.arrow(1, 3), true);
        CHECKS.due("every value, but not NULL", desk.arrow(2, 3), false);
        desk.cell(3, LEAST);
        desk.write(2, 0);
        CHECKS.due("a value", desk.arrow(2, 3), true);
    }
}
