/** Each promise of the document by itself: ordinary inputs, its edges, and wrong inputs. */
public final class PromisesTest {
    private static final Checks CHECKS = new Checks("PromisesTest");

    public static void main(String[] args) {
        promise1NewObjectIsEmpty();
        promise2BeginNumbersFromOne();
        promise2BeginRefuses();
        promise2BeginRefusesAt64Kept();
        promise3ReadCountsRanges();
        promise3ReadKnowsSameRanges();
        promise3NinthRangeBecomesWholeTable();
        promise3WholeTableStopsOthers();
        promise3ReadRefuses();
        promise3RangesStayAfterCommit();
        promise4CellFillsOneColumn();
        promise4CellRefuses();
        promise4EachBoundIsHeeded();
        promise4ExtremesAreCompared();
        promise5ClearMakesAllNull();
        promise6WriteDrawsArrowsToTheWriter();
        promise6WriteLooksAtConcurrencyAlone();
        promise6WriteDoomsTheWriter();
        promise6WriteSparesIfReaderCommittedBefore();
        promise6WriteDoomsIfReaderIsTheTarget();
        promise6WriteRefuses();
        promise7MissDrawsAnArrow();
        promise7MissDrawsNoneToSelfUnknownOrEarlier();
        promise7MissDoomsAsFirstOfTwo();
        promise7MissSparesIfPivotCommittedBefore();
        promise7MissDoomsAsSecondOfTwo();
        promise7MissSparesIfFirstCommittedBefore();
        promise7MissDoomsAgain();
        promise7MissKnowsTargetNotKept();
        promise7MissRefuses();
        promise8CommitNumbers();
        promise8CommitDoomsRunningPivots();
        promise8CommitSparesIfFirstCommittedBefore();
        promise8CommitOfDoomedChangesNothing();
        promise8CommitRefuses();
        promise9AbortForgets();
        promise9AbortLeavesOthersDoomed();
        promise9AbortFreesCommitted();
        promise9AbortRefuses();
        promise10DoomForbidsCommit();
        promise10DoomRefuses();
        promise11LookTellsAll();
        promise11LookTellsTheFirstCommit();
        promise11LookOfOthers();
        promise12ArrowNeedsBothKept();
        promise12SlotsAreNotInherited();
        promise12ArrowsAmongAll64();
        promise13RingsAreNone();
        promise14CountTellsAll();
        CHECKS.end();
    }

    private static void promise1NewObjectIsEmpty() {
        SerialDesk desk = new SerialDesk();
        CHECKS.due("1 kept", desk.count(0), 0);
        CHECKS.due("1 begun", desk.count(1), 0);
        CHECKS.due("1 commits", desk.count(2), 0);
        for (int id = -1; id < 3; id++) {
            CHECKS.due("1 look", desk.look(id, 0), 0);
        }
        for (int s = 0; s < 6; s++) {
            CHECKS.due("1 commit", desk.commit(s), -1);
            CHECKS.due("1 abort", desk.abort(s), false);
        }
        desk.begin(0);
        CHECKS.due("1 objects share nothing", new SerialDesk().count(1), 0);
    }

    private static void promise2BeginNumbersFromOne() {
        SerialDesk desk = new SerialDesk();
        for (int s = 0; s < 6; s++) {
            CHECKS.due("2 begin", desk.begin(5 - s), s + 1);
            CHECKS.due("2 runs", desk.look(s + 1, 0), 1);
        }
        desk.abort(3);
        CHECKS.due("2 id after abort", desk.begin(3), 7);
        desk.commit(3);
        CHECKS.due("2 id after commit", desk.begin(3), 8);
    }

    private static void promise2BeginRefuses() {
        SerialDesk desk = Desks.with(1);
        for (int s : Desks.NO_SESSIONS) {
            CHECKS.due("2 no session", desk.begin(s), -1);
        }
        CHECKS.due("2 one runs", desk.begin(0), -1);
        CHECKS.due("2 nothing changed", desk.count(1), 1);
        CHECKS.due("2 nothing kept", desk.count(0), 1);
        CHECKS.due("2 next id", desk.begin(1), 2);
    }

    private static void promise2BeginRefusesAt64Kept() {
        SerialDesk desk = Desks.with(1);
        for (int i = 0; i < 62; i++) {
            desk.begin(1);
            desk.commit(1);
        }
        CHECKS.due("2 63 kept", desk.count(0), 63);
        CHECKS.due("2 the 64th", desk.begin(1), 64);
        CHECKS.due("2 the 65th", desk.begin(2), -1);
        CHECKS.due("2 not begun", desk.count(1), 64);
        desk.abort(1);
        CHECKS.due("2 after abort", desk.begin(2), 65);
        desk.commit(2);
        CHECKS.due("2 full again", desk.begin(2), -1);
        desk.commit(0);
        CHECKS.due("2 all gone", desk.count(0), 0);
        CHECKS.due("2 after all", desk.begin(2), 66);
    }

    private static void promise3ReadCountsRanges() {
        SerialDesk desk = Desks.with(2);
        CHECKS.due("3 first", desk.read(0, 0, 0, 1, 2, 0), 1);
        CHECKS.due("3 second", desk.read(0, 0, 7, 1, 2, 0), 2);
        CHECKS.due("3 other table", desk.read(0, 7, 0, 1, 2, 15), 1);
        CHECKS.due("3 other one", desk.read(1, 0, 0, 1, 2, 0), 1);
        CHECKS.due("3 empty range", desk.read(0, 0, 0, 2, 1, 0), 3);
        CHECKS.due("3 all beside others", desk.read(0, 0, -1, 0, 0, 0), 4);
        CHECKS.due("3 none after all", desk.read(0, 0, 1, 0, 0, 0), 4);
        CHECKS.due("3 all once", desk.read(0, 0, -1, 9, 9, 9), 4);
    }

    private static void promise3ReadKnowsSameRanges() {
        SerialDesk desk = Desks.with(1);
        desk.read(0, 0, 1, 5, 9, 0);
        CHECKS.due("3 same", desk.read(0, 0, 1, 5, 9, 0), 1);
        CHECKS.due("3 column", desk.read(0, 0, 2, 5, 9, 0), 2);
        CHECKS.due("3 low", desk.read(0, 0, 1, 4, 9, 0), 3);
        CHECKS.due("3 high", desk.read(0, 0, 1, 5, 8, 0), 4);
        CHECKS.due("3 bounds", desk.read(0, 0, 1, 5, 9, 1), 5);
        desk.read(0, 1, 1, 5, 9, 4);
        CHECKS.due("3 no low, other low", desk.read(0, 1, 1, 6, 9, 4), 1);
        CHECKS.due("3 no low, other high", desk.read(0, 1, 1, 5, 8, 4), 2);
        desk.read(0, 2, 1, 5, 9, 8);
        CHECKS.due("3 no high, other high", desk.read(0, 2, 1, 5, 8, 8), 1);
        CHECKS.due("3 no high, other low", desk.read(0, 2, 1, 6, 9, 8), 2);
        desk.read(0, 3, 1, 5, 9, 12);
        CHECKS.due("3 neither", desk.read(0, 3, 1, -5, -9, 12), 1);
        CHECKS.due("3 neither, other sum", desk.read(0, 3, 1, 5, 9, 13), 2);
        CHECKS.due("3 low apart by 2^32", desk.read(0, 4, 1, 1, 0, 0), 1);
        CHECKS.due("3 is another", desk.read(0, 4, 1, 1 + (1L << 32), 0, 0), 2);
    }

    private static void promise3NinthRangeBecomesWholeTable() {
        SerialDesk desk = Desks.with(2);
        for (int i = 0; i < 8; i++) {
            CHECKS.due("3 of eight", desk.read(0, 5, i, i, i, 0), i + 1);
        }
        CHECKS.due("3 one of the eight", desk.read(0, 5, 3, 3, 3, 0), 8);
        desk.write(1, 5);
        CHECKS.due("3 not yet all", desk.arrow(1, 2), false);
        CHECKS.due("3 ninth", desk.read(0, 5, 0, 100, 100, 0), 1);
        CHECKS.due("3 tenth", desk.read(0, 5, 0, 200, 200, 0), 1);
        CHECKS.due("3 one of the first", desk.read(0, 5, 3, 3, 3, 0), 1);
        desk.write(1, 5);
        CHECKS.due("3 all is read", desk.arrow(1, 2), true);
        for (int i = 0; i < 8; i++) {
            desk.read(0, 6, i, i, i, 0);
        }
        CHECKS.due("3 all as the ninth", desk.read(0, 6, -1, 0, 0, 0), 1);
    }

    private static void promise3WholeTableStopsOthers() {
        SerialDesk desk = Desks.with(1);
        CHECKS.due("3 all", desk.read(0, 0, -1, 5, 4, 15), 1);
        CHECKS.due("3 all again", desk.read(0, 0, -1, 7, 8, 0), 1);
        CHECKS.due("3 a part", desk.read(0, 0, 0, 7, 8, 0), 1);
        CHECKS.due("3 all, whatever the bounds", desk.read(0, 1, -1, 0, 0, 16), 1);
        CHECKS.due("3 seven first", desk.read(0, 2, 0, 0, 0, 0), 1);
        for (int i = 1; i < 7; i++) {
            desk.read(0, 2, i, 0, 0, 0);
        }
        CHECKS.due("3 all as the eighth", desk.read(0, 2, -1, 0, 0, 0), 8);
        CHECKS.due("3 none after it", desk.read(0, 2, 7, 0, 0, 0), 8);
    }

    private static void promise3ReadRefuses() {
        SerialDesk desk = Desks.with(1);
        for (int s : Desks.NO_SESSIONS) {
            CHECKS.due("3 no session", desk.read(s, 0, 0, 0, 0, 0), -1);
        }
        CHECKS.due("3 none runs", desk.read(1, 0, 0, 0, 0, 0), -1);
        for (int table : Desks.NO_TABLES) {
            CHECKS.due("3 no table", desk.read(0, table, 0, 0, 0, 0), -1);
            CHECKS.due("3 all of no table", desk.read(0, table, -1, 0, 0, 0), -1);
        }
        for (int column : Desks.NO_COLUMNS) {
            CHECKS.due("3 no column", desk.read(0, 0, column, 0, 0, 0), -1);
        }
        for (int bounds : Desks.NO_BOUNDS) {
            CHECKS.due("3 no bounds", desk.read(0, 0, 0, 0, 0, bounds), -1);
        }
        CHECKS.due("3 nothing changed", desk.read(0, 0, 0, 0, 0, 0), 1);
    }

    private static void promise3RangesStayAfterCommit() {
        SerialDesk desk = Desks.with(2);
        desk.read(0, 0, 0, 0, 9, 0);
        desk.commit(0);
        CHECKS.due("3 none runs after commit", desk.read(0, 0, 0, 0, 9, 0), -1);
        desk.cell(0, 5);
        desk.write(1, 0);
        CHECKS.due("3 range of a committed one", desk.arrow(1, 2), true);
        desk.begin(0);
        CHECKS.due("3 a new one has none", desk.read(0, 0, 1, 0, 9, 0), 1);
    }

    private static void promise4CellFillsOneColumn() {
        for (int column = 0; column < 8; column++) {
            SerialDesk desk = Desks.with(2);
            desk.read(0, 0, column, 5, 5, 0);
            for (int other = 0; other < 8; other++) {
                if (other != column) {
                    CHECKS.due("4 cell", desk.cell(other, 5), true);
                }
            }
            desk.write(1, 0);
            CHECKS.due("4 NULL is in none", desk.arrow(1, 2), false);
            CHECKS.due("4 cell", desk.cell(column, 6), true);
            desk.write(1, 0);
            CHECKS.due("4 another value", desk.arrow(1, 2), false);
            CHECKS.due("4 cell", desk.cell(column, 5), true);
            desk.write(1, 0);
            CHECKS.due("4 the value", desk.arrow(1, 2), true);
        }
        SerialDesk unbounded = Desks.with(2);
        unbounded.read(0, 0, 0, 0, 0, 12);
        unbounded.write(1, 0);
        CHECKS.due("4 NULL is in none without bounds", unbounded.arrow(1, 2), false);
    }

    private static void promise4CellRefuses() {
        SerialDesk desk = new SerialDesk();
        for (int column : Desks.NO_CELLS) {
            CHECKS.due("4 no column", desk.cell(column, 1), false);
        }
    }

    private static void promise4EachBoundIsHeeded() {
        for (int bounds = 0; bounds < 16; bounds++) {
            boolean lowOut = (bounds & 1) != 0;
            boolean highOut = (bounds & 2) != 0;
            boolean noLow = (bounds & 4) != 0;
            boolean noHigh = (bounds & 8) != 0;
            CHECKS.due("4 under low " + bounds, Desks.hits(bounds, 10, 20, 9), noLow);
            CHECKS.due("4 at low " + bounds, Desks.hits(bounds, 10, 20, 10), noLow || !lowOut);
            CHECKS.due("4 over low " + bounds, Desks.hits(bounds, 10, 20, 11), true);
            CHECKS.due("4 under high " + bounds, Desks.hits(bounds, 10, 20, 19), true);
            CHECKS.due("4 at high " + bounds, Desks.hits(bounds, 10, 20, 20), noHigh || !highOut);
            CHECKS.due("4 over high " + bounds, Desks.hits(bounds, 10, 20, 21), noHigh);
        }
    }

    private static void promise4ExtremesAreCompared() {
        long least = Long.MIN_VALUE;
        long most = Long.MAX_VALUE;
        CHECKS.due("4 least", Desks.hits(0, least, most, least), true);
        CHECKS.due("4 most", Desks.hits(0, least, most, most), true);
        CHECKS.due("4 least is out", Desks.hits(1, least, most, least), false);
        CHECKS.due("4 most is out", Desks.hits(2, least, most, most), false);
        CHECKS.due("4 no wrap at low", Desks.hits(0, most, most, least), false);
        CHECKS.due("4 no wrap at high", Desks.hits(0, least, least, most), false);
        CHECKS.due("4 longs, not ints", Desks.hits(0, 1, 1, 1 + (1L << 32)), false);
        CHECKS.due("4 low over high", Desks.hits(0, 6, 4, 5), false);
        CHECKS.due("4 one point", Desks.hits(0, 5, 5, 5), true);
        CHECKS.due("4 one point without low", Desks.hits(1, 5, 5, 5), false);
    }

    private static void promise5ClearMakesAllNull() {
        for (int column = 0; column < 8; column++) {
            SerialDesk desk = Desks.with(2);
            desk.read(0, 0, column, 0, 0, 12);
            for (int i = 0; i < 8; i++) {
                desk.cell(i, 0);
            }
            desk.clear();
            desk.write(1, 0);
            CHECKS.due("5 cleared", desk.arrow(1, 2), false);
            desk.cell(column, 3);
            desk.write(1, 0);
            CHECKS.due("5 filled anew", desk.arrow(1, 2), true);
        }
        SerialDesk whole = Desks.with(2);
        whole.read(0, 0, -1, 0, 0, 0);
        whole.clear();
        whole.write(1, 0);
        CHECKS.due("5 all NULL is in all of a table", whole.arrow(1, 2), true);
    }

    private static void promise6WriteDrawsArrowsToTheWriter() {
        SerialDesk desk = Desks.with(4);
        desk.read(0, 0, -1, 0, 0, 0);
        desk.read(1, 1, -1, 0, 0, 0);
        desk.read(2, 0, 4, 0, 0, 12);
        desk.read(3, 0, -1, 0, 0, 0);
        CHECKS.due("6 write", desk.write(3, 0), false);
        CHECKS.due("6 reader", desk.arrow(1, 4), true);
        CHECKS.due("6 not the other way", desk.arrow(4, 1), false);
        CHECKS.due("6 other table", desk.arrow(2, 4), false);
        CHECKS.due("6 not in its range", desk.arrow(3, 4), false);
        CHECKS.due("6 not to itself", desk.arrow(4, 4), false);
        desk.write(3, 0);
        CHECKS.due("6 once each", desk.look(4, 5), 1);
        desk.write(3, 1);
        CHECKS.due("6 two", desk.look(4, 5), 2);
    }

    private static void promise6WriteLooksAtConcurrencyAlone() {
        SerialDesk desk = Desks.with(2);
        desk.read(1, 0, -1, 0, 0, 0);
        desk.commit(1);
        desk.begin(2);
        desk.write(2, 0);
        CHECKS.due("6 committed when it began", desk.arrow(2, 3), false);
        desk.write(0, 0);
        CHECKS.due("6 committed since it began", desk.arrow(2, 1), true);
        desk.begin(3);
        desk.read(3, 1, -1, 0, 0, 0);
        desk.doom(3);
        desk.write(2, 1);
        CHECKS.due("6 a doomed reader counts", desk.arrow(4, 3), true);
        desk.doom(2);
        desk.read(0, 2, -1, 0, 0, 0);
        CHECKS.due("6 a doomed writer is told", desk.write(2, 2), true);
        CHECKS.due("6 and has arrows", desk.arrow(1, 3), true);
    }

    private static void promise6WriteDoomsTheWriter() {
        SerialDesk desk = Desks.with(3);
        desk.read(0, 0, -1, 0, 0, 0);
        desk.miss(1, 3);
        CHECKS.due("6 before the commit", desk.write(1, 1), false);
        desk.commit(2);
        CHECKS.due("6 nobody reads that", desk.write(1, 1), false);
        CHECKS.due("6 A runs, B committed", desk.write(1, 0), true);
        CHECKS.due("6 it stays doomed", desk.write(1, 1), true);
        CHECKS.due("6 the reader is not", desk.look(1, 1), 0);
        CHECKS.due("6 commit of it", desk.commit(1), 0);
        CHECKS.due("6 commit of the reader", desk.commit(0), 2);
    }

    private static void promise6WriteSparesIfReaderCommittedBefore() {
        SerialDesk desk = Desks.with(3);
        desk.read(0, 0, -1, 0, 0, 0);
        desk.miss(1, 3);
        desk.commit(0);
        desk.commit(2);
        CHECKS.due("6 A committed before B", desk.write(1, 0), false);
        CHECKS.due("6 the arrow is there", desk.arrow(1, 2), true);
        SerialDesk other = Desks.with(3);
        other.read(0, 0, -1, 0, 0, 0);
        other.miss(1, 3);
        other.commit(2);
        other.commit(0);
        CHECKS.due("6 A committed after B", other.write(1, 0), true);
    }

    private static void promise6WriteDoomsIfReaderIsTheTarget() {
        SerialDesk desk = Desks.with(2);
        desk.read(1, 0, -1, 0, 0, 0);
        desk.miss(0, 2);
        desk.commit(1);
        CHECKS.due("6 not yet", desk.look(1, 1), 0);
        CHECKS.due("6 A is B", desk.write(0, 0), true);
    }

    private static void promise6WriteRefuses() {
        SerialDesk desk = Desks.with(2);
        desk.read(0, 0, -1, 0, 0, 0);
        desk.doom(1);
        for (int s : Desks.NO_SESSIONS) {
            CHECKS.due("6 no session", desk.write(s, 0), false);
        }
        CHECKS.due("6 none runs", desk.write(2, 0), false);
        for (int table : Desks.NO_TABLES) {
            CHECKS.due("6 no table, though doomed", desk.write(1, table), false);
        }
        CHECKS.due("6 nothing changed", desk.look(2, 5), 0);
    }

    private static void promise7MissDrawsAnArrow() {
        SerialDesk desk = Desks.with(3);
        CHECKS.due("7 miss", desk.miss(0, 2), false);
        CHECKS.due("7 arrow", desk.arrow(1, 2), true);
        CHECKS.due("7 not the other way", desk.arrow(2, 1), false);
        CHECKS.due("7 nor to another", desk.arrow(1, 3), false);
        desk.miss(0, 2);
        CHECKS.due("7 once each", desk.look(2, 5), 1);
        desk.commit(2);
        CHECKS.due("7 of a committed one", desk.miss(0, 3), false);
        CHECKS.due("7 arrow to it", desk.arrow(1, 3), true);
    }

    private static void promise7MissDrawsNoneToSelfUnknownOrEarlier() {
        SerialDesk desk = Desks.with(3);
        desk.miss(0, 1);
        CHECKS.due("7 itself", desk.arrow(1, 1), false);
        desk.abort(2);
        int[] unknown = {3, 0, -1, 4, Integer.MIN_VALUE, Integer.MAX_VALUE};
        for (int id : unknown) {
            CHECKS.due("7 not kept", desk.miss(0, id), false);
        }
        desk.commit(1);
        desk.begin(1);
        CHECKS.due("7 committed when it began", desk.miss(1, 2), false);
        CHECKS.due("7 no arrow to it", desk.arrow(4, 2), false);
        CHECKS.due("7 no commit of it", desk.look(4, 4), 0);
        desk.doom(1);
        CHECKS.due("7 doomed already", desk.miss(1, 99), true);
        CHECKS.due("7 doomed already, itself", desk.miss(1, 4), true);
    }

    private static void promise7MissDoomsAsFirstOfTwo() {
        SerialDesk desk = Desks.with(3);
        desk.miss(1, 3);
        desk.commit(2);
        CHECKS.due("7 the pivot runs", desk.miss(0, 2), true);
        CHECKS.due("7 the pivot is not doomed", desk.look(2, 1), 0);
        SerialDesk other = Desks.with(3);
        other.miss(1, 3);
        other.commit(2);
        other.commit(1);
        CHECKS.due("7 the pivot committed after", other.miss(0, 2), true);
        SerialDesk open = Desks.with(3);
        open.miss(1, 3);
        CHECKS.due("7 nobody committed", open.miss(0, 2), false);
    }

    private static void promise7MissSparesIfPivotCommittedBefore() {
        SerialDesk desk = Desks.with(3);
        desk.miss(1, 3);
        desk.commit(1);
        desk.commit(2);
        CHECKS.due("7 the pivot committed before", desk.miss(0, 2), false);
        CHECKS.due("7 the arrow is there", desk.arrow(1, 2), true);
        CHECKS.due("7 it may commit", desk.commit(0), 3);
    }

    private static void promise7MissDoomsAsSecondOfTwo() {
        SerialDesk desk = Desks.with(3);
        desk.miss(0, 2);
        desk.commit(2);
        CHECKS.due("7 A runs", desk.miss(1, 3), true);
        CHECKS.due("7 A is not doomed", desk.look(1, 1), 0);
        SerialDesk other = Desks.with(3);
        other.miss(0, 2);
        other.commit(2);
        other.commit(0);
        CHECKS.due("7 A committed after", other.miss(1, 3), true);
        SerialDesk ring = Desks.with(2);
        ring.miss(0, 2);
        ring.commit(0);
        CHECKS.due("7 A is B", ring.miss(1, 1), true);
        SerialDesk open = Desks.with(3);
        open.miss(0, 2);
        CHECKS.due("7 B runs", open.miss(1, 3), false);
    }

    private static void promise7MissSparesIfFirstCommittedBefore() {
        SerialDesk desk = Desks.with(3);
        desk.miss(0, 2);
        desk.commit(0);
        desk.commit(2);
        CHECKS.due("7 A committed before", desk.miss(1, 3), false);
        CHECKS.due("7 it may commit", desk.commit(1), 3);
    }

    private static void promise7MissDoomsAgain() {
        SerialDesk desk = Desks.with(3);
        CHECKS.due("7 first time", desk.miss(0, 2), false);
        desk.miss(1, 3);
        desk.commit(2);
        CHECKS.due("7 the pivot is doomed", desk.look(2, 1), 1);
        CHECKS.due("7 the first is not", desk.look(1, 1), 0);
        CHECKS.due("7 the arrow is there already", desk.miss(0, 2), true);
    }

    private static void promise7MissKnowsTargetNotKept() {
        SerialDesk desk = Desks.with(2);
        desk.miss(0, 2);
        desk.commit(1);
        desk.begin(2);
        desk.commit(0);
        CHECKS.due("7 B is not kept", desk.look(2, 0), 0);
        CHECKS.due("7 P is", desk.look(1, 0), 2);
        CHECKS.due("7 its first commit", desk.look(1, 4), 1);
        CHECKS.due("7 P -> B is known", desk.miss(2, 1), true);
    }

    private static void promise7MissRefuses() {
        SerialDesk desk = Desks.with(2);
        for (int s : Desks.NO_SESSIONS) {
            CHECKS.due("7 no session", desk.miss(s, 1), false);
        }
        CHECKS.due("7 none runs", desk.miss(2, 1), false);
        CHECKS.due("7 nothing changed", desk.look(1, 5), 0);
    }

    private static void promise8CommitNumbers() {
        SerialDesk desk = Desks.with(3);
        CHECKS.due("8 first", desk.commit(2), 1);
        CHECKS.due("8 not twice", desk.commit(2), -1);
        CHECKS.due("8 kept", desk.look(3, 0), 2);
        desk.abort(1);
        CHECKS.due("8 second", desk.commit(0), 2);
        CHECKS.due("8 none is kept", desk.count(0), 0);
        desk.begin(0);
        CHECKS.due("8 third", desk.commit(0), 3);
        CHECKS.due("8 alone it is not kept", desk.look(4, 0), 0);
    }

    private static void promise8CommitDoomsRunningPivots() {
        SerialDesk desk = Desks.with(4);
        desk.miss(0, 2);
        desk.miss(1, 3);
        desk.miss(3, 3);
        CHECKS.due("8 commit", desk.commit(2), 1);
        CHECKS.due("8 the pivot", desk.look(2, 1), 1);
        CHECKS.due("8 without an arrow to it", desk.look(4, 1), 0);
        CHECKS.due("8 the first", desk.look(1, 1), 0);
        SerialDesk ring = Desks.with(2);
        ring.miss(0, 2);
        ring.miss(1, 1);
        ring.commit(1);
        CHECKS.due("8 A is B", ring.look(1, 1), 1);
    }

    private static void promise8CommitSparesIfFirstCommittedBefore() {
        SerialDesk desk = Desks.with(3);
        desk.miss(0, 2);
        desk.miss(1, 3);
        desk.commit(0);
        desk.commit(2);
        CHECKS.due("8 A committed before", desk.look(2, 1), 0);
        CHECKS.due("8 the pivot commits", desk.commit(1), 3);
        SerialDesk early = Desks.with(3);
        early.miss(0, 2);
        early.miss(1, 3);
        early.commit(1);
        early.commit(2);
        CHECKS.due("8 a committed pivot is not doomed", early.look(2, 1), 0);
    }

    private static void promise8CommitOfDoomedChangesNothing() {
        SerialDesk desk = Desks.with(3);
        desk.miss(1, 1);
        desk.doom(0);
        CHECKS.due("8 doomed", desk.commit(0), 0);
        CHECKS.due("8 it runs on", desk.look(1, 0), 1);
        CHECKS.due("8 no commit", desk.count(2), 0);
        CHECKS.due("8 no commit of it", desk.look(1, 3), 0);
        CHECKS.due("8 none pointed at", desk.look(2, 4), 0);
        CHECKS.due("8 doomed again", desk.commit(0), 0);
        CHECKS.due("8 the next", desk.commit(1), 1);
    }

    private static void promise8CommitRefuses() {
        SerialDesk desk = Desks.with(1);
        for (int s : Desks.NO_SESSIONS) {
            CHECKS.due("8 no session", desk.commit(s), -1);
        }
        CHECKS.due("8 none runs", desk.commit(1), -1);
        CHECKS.due("8 nothing changed", desk.count(2), 0);
    }

    private static void promise9AbortForgets() {
        SerialDesk desk = Desks.with(3);
        desk.miss(0, 2);
        desk.miss(1, 3);
        CHECKS.due("9 abort", desk.abort(0), true);
        CHECKS.due("9 not kept", desk.look(1, 0), 0);
        CHECKS.due("9 fewer kept", desk.count(0), 2);
        CHECKS.due("9 no arrow from it", desk.look(2, 5), 0);
        desk.commit(2);
        CHECKS.due("9 no danger by it", desk.look(2, 1), 0);
        SerialDesk target = Desks.with(2);
        target.miss(0, 2);
        target.abort(1);
        CHECKS.due("9 no commit", target.count(2), 0);
        CHECKS.due("9 none pointed at", target.look(1, 4), 0);
        CHECKS.due("9 not twice", target.abort(1), false);
    }

    private static void promise9AbortLeavesOthersDoomed() {
        SerialDesk desk = Desks.with(3);
        desk.miss(0, 2);
        desk.miss(1, 3);
        desk.commit(2);
        desk.abort(0);
        CHECKS.due("9 doomed for good", desk.look(2, 1), 1);
        desk.abort(1);
        CHECKS.due("9 the session is free", desk.begin(1), 4);
        CHECKS.due("9 a new one is not doomed", desk.look(4, 1), 0);
    }

    private static void promise9AbortFreesCommitted() {
        SerialDesk desk = Desks.with(2);
        desk.commit(1);
        desk.begin(2);
        CHECKS.due("9 kept for the first", desk.look(2, 0), 2);
        desk.abort(0);
        CHECKS.due("9 for nobody else", desk.look(2, 0), 0);
        CHECKS.due("9 the later one is left", desk.count(0), 1);
    }

    private static void promise9AbortRefuses() {
        SerialDesk desk = Desks.with(1);
        for (int s : Desks.NO_SESSIONS) {
            CHECKS.due("9 no session", desk.abort(s), false);
        }
        CHECKS.due("9 none runs", desk.abort(1), false);
        CHECKS.due("9 nothing changed", desk.count(0), 1);
    }

    private static void promise10DoomForbidsCommit() {
        SerialDesk desk = Desks.with(2);
        CHECKS.due("10 doom", desk.doom(0), true);
        CHECKS.due("10 doomed", desk.look(1, 1), 1);
        CHECKS.due("10 another is not", desk.look(2, 1), 0);
        CHECKS.due("10 again", desk.doom(0), true);
        CHECKS.due("10 commit", desk.commit(0), 0);
        CHECKS.due("10 abort", desk.abort(0), true);
    }

    private static void promise10DoomRefuses() {
        SerialDesk desk = Desks.with(1);
        for (int s : Desks.NO_SESSIONS) {
            CHECKS.due("10 no session", desk.doom(s), false);
        }
        CHECKS.due("10 none runs", desk.doom(1), false);
        CHECKS.due("10 nothing changed", desk.look(1, 1), 0);
    }

    private static void promise11LookTellsAll() {
        SerialDesk desk = Desks.with(3);
        desk.commit(2);
        desk.begin(2);
        desk.miss(1, 1);
        desk.miss(2, 1);
        CHECKS.due("11 runs", desk.look(1, 0), 1);
        CHECKS.due("11 committed", desk.look(3, 0), 2);
        CHECKS.due("11 not doomed", desk.look(3, 1), 0);
        CHECKS.due("11 commits at begin", desk.look(1, 2), 0);
        CHECKS.due("11 commits at a later begin", desk.look(4, 2), 1);
        CHECKS.due("11 no commit yet", desk.look(1, 3), 0);
        CHECKS.due("11 its commit", desk.look(3, 3), 1);
        CHECKS.due("11 arrows to it", desk.look(1, 5), 2);
        CHECKS.due("11 arrows to none", desk.look(2, 5), 0);
        CHECKS.due("11 no commit pointed at", desk.look(2, 4), 0);
    }

    private static void promise11LookTellsTheFirstCommit() {
        SerialDesk desk = Desks.with(4);
        desk.miss(0, 4);
        desk.commit(2);
        desk.commit(3);
        CHECKS.due("11 the one it points at", desk.look(1, 4), 2);
        desk.miss(0, 3);
        CHECKS.due("11 an earlier one", desk.look(1, 4), 1);
        desk.miss(0, 2);
        desk.commit(1);
        CHECKS.due("11 not a later one", desk.look(1, 4), 1);
        SerialDesk late = Desks.with(3);
        late.read(0, 0, -1, 0, 0, 0);
        late.commit(0);
        late.write(1, 0);
        late.commit(1);
        CHECKS.due("11 of a committed one too", late.look(1, 4), 2);
    }

    private static void promise11LookOfOthers() {
        SerialDesk desk = Desks.with(2);
        desk.commit(1);
        desk.commit(0);
        int[] notKept = {1, 2, 3, 0, -1, Integer.MIN_VALUE, Integer.MAX_VALUE};
        for (int id : notKept) {
            for (int what = 0; what < 6; what++) {
                CHECKS.due("11 not kept", desk.look(id, what), 0);
            }
        }
        desk.begin(0);
        int[] others = {-1, 6, Integer.MIN_VALUE, Integer.MAX_VALUE};
        for (int what : others) {
            CHECKS.due("11 another what", desk.look(3, what), -1);
            CHECKS.due("11 another what of none", desk.look(1, what), -1);
        }
    }

    private static void promise12ArrowNeedsBothKept() {
        SerialDesk desk = Desks.with(2);
        desk.miss(0, 2);
        desk.commit(1);
        CHECKS.due("12 both kept", desk.arrow(1, 2), true);
        desk.begin(2);
        desk.commit(0);
        CHECKS.due("12 the second is not", desk.arrow(1, 2), false);
        CHECKS.due("12 the first is", desk.look(1, 0), 2);
        int[] unknown = {0, -1, 4, Integer.MIN_VALUE, Integer.MAX_VALUE};
        for (int id : unknown) {
            CHECKS.due("12 from none", desk.arrow(id, 3), false);
            CHECKS.due("12 to none", desk.arrow(3, id), false);
        }
        CHECKS.due("12 to itself", desk.arrow(3, 3), false);
    }

    private static void promise12SlotsAreNotInherited() {
        SerialDesk desk = Desks.with(3);
        desk.miss(0, 2);
        desk.miss(1, 3);
        desk.read(1, 0, -1, 0, 0, 0);
        desk.abort(1);
        desk.begin(1);
        CHECKS.due("12 no arrow to a new one", desk.arrow(1, 4), false);
        CHECKS.due("12 no arrow from a new one", desk.arrow(4, 3), false);
        desk.write(0, 0);
        CHECKS.due("12 no range of a new one", desk.arrow(4, 1), false);
    }

    private static void promise12ArrowsAmongAll64() {
        SerialDesk desk = Desks.with(1);
        for (int id = 2; id <= 64; id++) {
            desk.begin(1);
            if (id % 3 == 0) {
                desk.read(1, 0, -1, 0, 0, 0);
            }
            if (id < 64) {
                desk.commit(1);
            }
        }
        desk.write(0, 0);
        CHECKS.due("12 readers", desk.look(1, 5), 21);
        for (int id = 2; id <= 64; id++) {
            CHECKS.due("12 from " + id, desk.arrow(id, 1), id % 3 == 0);
        }
        desk.doom(0);
        for (int id = 2; id <= 64; id += 7) {
            desk.miss(0, id);
        }
        for (int id = 1; id <= 64; id++) {
            CHECKS.due("12 to " + id, desk.arrow(1, id), id % 7 == 2);
        }
        CHECKS.due("12 the first commit", desk.look(1, 4), 1);
        desk.miss(0, 64);
        desk.abort(1);
        desk.begin(1);
        CHECKS.due("12 the last slot anew", desk.arrow(1, 65), false);
    }

    private static void promise13RingsAreNone() {
        SerialDesk desk = Desks.with(2);
        CHECKS.due("13 none", desk.rings(), 0);
        desk.miss(0, 2);
        desk.miss(1, 1);
        CHECKS.due("13 a ring of running ones", desk.rings(), 0);
        desk.commit(0);
        desk.commit(1);
        CHECKS.due("13 one of them failed", desk.rings(), 0);
        CHECKS.due("13 and has not committed", desk.count(2), 1);
    }

    private static void promise14CountTellsAll() {
        SerialDesk desk = Desks.with(4);
        desk.commit(0);
        desk.abort(1);
        CHECKS.due("14 kept", desk.count(0), 3);
        CHECKS.due("14 begun", desk.count(1), 4);
        CHECKS.due("14 commits", desk.count(2), 1);
        int[] others = {-1, 3, Integer.MIN_VALUE, Integer.MAX_VALUE};
        for (int what : others) {
            CHECKS.due("14 another what", desk.count(what), -1);
        }
    }
}
