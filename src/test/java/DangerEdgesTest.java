/**
 * The edges under "Terms" of arrows, dangers and dooms: a test for each sentence that names one.
 * In the tests of dangers A is 1, P is 2 and B is 3, in the sessions 0, 1 and 2.
 */
public final class DangerEdgesTest {
    private static final Checks CHECKS = new Checks("DangerEdgesTest");
    private static final int A = 0;
    private static final int P = 1;
    private static final int B = 2;

    public static void main(String[] args) {
        arrowsAreOnceEach();
        arrowsAreApartWith64Kept();
        writeGoesByOtherTransactions();
        writeGoesByKeptTransactions();
        writeGoesByConcurrentTransactions();
        writeGoesByEachTransaction();
        writeNeedsARangeOfTheTable();
        missNeedsAKeptOne();
        missNeedsAnotherOne();
        missNeedsAConcurrentOne();
        arrowEndsWhenTheFirstIsNotKept();
        arrowEndsWhenTheSecondIsAborted();
        arrowEndsAloneWithManyKept();
        arrowOutlivesTheSecond();
        dangerNeedsACommittedTarget();
        dangerNeedsAFirstNotBefore();
        dangerNeedsAPivotNotBefore();
        dangerGoesByTheEarliestTarget();
        dangerFirstMayBeTheTarget();
        dangerKnowsTargetsNotKept();
        dangerForgetsAbortedOnes();
        arrowThereAlreadyDooms();
        otherArrowsDoNotDoom();
        onlyTheCallerIsDoomed();
        commitDoomsEachPivot();
        commitDoomsRunningPivotsAlone();
        commitNeedsSomeArrowToThePivot();
        commitNeedsAFirstNotBefore();
        commitCountsTheTargetAsFirst();
        commitCountsDoomedFirsts();
        doomedCannotCommit();
        doomedCanDoAllElse();
        CHECKS.end();
    }

    private static void arrowsAreOnceEach() {
        CHECKS.sentence("ARROWS A -> B go between two that were concurrent, once each");
        SerialDesk desk = Desks.with(2);
        Desks.readAll(desk, 0, 0);
        Desks.readEight(desk, 0, 1);
        for (int column = 0; column < 8; column++) {
            desk.cell(column, column);
        }
        desk.write(1, 0);
        desk.write(1, 0);
        desk.write(1, 1);
        desk.miss(0, 2);
        desk.miss(0, 2);
        CHECKS.due("after five of them", desk.look(2, 5), 1);
        CHECKS.due("the other way", desk.arrow(2, 1), false);
        desk.miss(1, 1);
        CHECKS.due("the other way is another", desk.look(1, 5), 1);
        desk.abort(0);
        CHECKS.due("and ends at once", desk.look(2, 5), 0);
    }

    private static void arrowsAreApartWith64Kept() {
        CHECKS.sentence("ARROWS A -> B go between two that were concurrent, once each");
        for (int part = 0; part < 2; part++) {
            SerialDesk desk = Desks.withCommitted(62);
            desk.begin(1);
            for (int id = 2; id <= 64; id++) {
                if (id / 32 == part) {
                    desk.miss(0, id);
                }
            }
            for (int id = 1; id <= 64; id++) {
                CHECKS.due("to " + id, desk.arrow(1, id), id > 1 && id / 32 == part);
            }
        }
    }

    private static void writeGoesByOtherTransactions() {
        CHECKS.sentence("for each other kept transaction A");
        SerialDesk desk = Desks.with(1);
        Desks.readAll(desk, 0, 0);
        CHECKS.due("its own range", desk.write(0, 0), false);
        CHECKS.due("no arrow to itself", desk.arrow(1, 1), false);
        CHECKS.due("none is counted", desk.look(1, 5), 0);
    }

    private static void writeGoesByKeptTransactions() {
        CHECKS.sentence("for each other kept transaction A");
        SerialDesk desk = Desks.with(3);
        Desks.readAll(desk, 0, 0);
        Desks.readAll(desk, 1, 0);
        desk.abort(0);
        desk.commit(1);
        desk.write(2, 0);
        CHECKS.due("one aborted, one committed", desk.look(3, 5), 1);
        CHECKS.due("the committed one", desk.arrow(2, 3), true);
        CHECKS.due("the aborted one", desk.arrow(1, 3), false);
        desk.abort(2);
        desk.begin(0);
        desk.begin(1);
        desk.write(1, 0);
        CHECKS.due("none is kept of those", desk.look(5, 5), 0);
    }

    private static void writeGoesByConcurrentTransactions() {
        CHECKS.sentence("concurrent with the one that writes");
        SerialDesk desk = Desks.with(2);
        Desks.readAll(desk, 1, 0);
        desk.commit(1);
        desk.begin(1);
        desk.begin(2);
        Desks.readAll(desk, 2, 0);
        desk.write(1, 0);
        CHECKS.due("kept, but committed when it began", desk.arrow(2, 3), false);
        CHECKS.due("began after it", desk.arrow(4, 3), true);
        desk.write(0, 0);
        CHECKS.due("committed since it began", desk.arrow(2, 1), true);
    }

    private static void writeGoesByEachTransaction() {
        CHECKS.sentence("for each other kept transaction A");
        SerialDesk desk = Desks.with(1);
        for (int i = 0; i < 58; i++) {
            desk.begin(1);
            Desks.readAll(desk, 1, 0);
            desk.commit(1);
        }
        for (int s = 1; s < 6; s++) {
            desk.begin(s);
            Desks.readAll(desk, s, 0);
        }
        desk.write(0, 0);
        CHECKS.due("63 others", desk.look(1, 5), 63);
        for (int id = 2; id <= 64; id++) {
            CHECKS.due("from " + id, desk.arrow(id, 1), true);
        }
        desk.write(5, 0);
        CHECKS.due("four others are concurrent", desk.look(64, 5), 4);
    }

    private static void writeNeedsARangeOfTheTable() {
        CHECKS.sentence("with a range of the table in which the version is");
        SerialDesk desk = Desks.with(3);
        desk.read(0, 0, 0, 1, 1, 0);
        desk.read(0, 1, 0, 2, 2, 0);
        desk.cell(0, 2);
        desk.write(2, 0);
        CHECKS.due("in a range of another table", desk.arrow(1, 3), false);
        CHECKS.due("one without ranges", desk.arrow(2, 3), false);
        desk.write(2, 1);
        CHECKS.due("in a range of the table", desk.arrow(1, 3), true);
        desk.read(1, 1, 0, 2, 2, 0);
        CHECKS.due("a read after the write", desk.arrow(2, 3), false);
    }

    private static void missNeedsAKeptOne() {
        CHECKS.sentence("an arrow from the one that misses to B, if B is kept");
        SerialDesk desk = Desks.with(3);
        desk.abort(2);
        desk.commit(1);
        desk.miss(0, 2);
        CHECKS.due("committed and kept", desk.arrow(1, 2), true);
        String before = Desks.picture(desk, 4);
        int[] others = {3, 4, 0, -1, -2, Integer.MIN_VALUE, Integer.MAX_VALUE};
        for (int id : others) {
            CHECKS.due("aborted or never begun, " + id, desk.miss(0, id), false);
        }
        CHECKS.due("all after that", Desks.picture(desk, 4), before);
        desk.abort(0);
        desk.begin(0);
        CHECKS.due("committed and not kept", desk.miss(0, 2), false);
        CHECKS.due("no commit is pointed at", desk.look(4, 4), 0);
    }

    private static void missNeedsAnotherOne() {
        CHECKS.sentence("another one, and concurrent");
        SerialDesk desk = Desks.with(3);
        desk.miss(P, 3);
        desk.commit(B);
        CHECKS.due("itself", desk.miss(P, 2), false);
        CHECKS.due("no arrow to itself", desk.arrow(2, 2), false);
        CHECKS.due("none is counted", desk.look(2, 5), 0);
    }

    private static void missNeedsAConcurrentOne() {
        CHECKS.sentence("another one, and concurrent");
        SerialDesk desk = Desks.with(2);
        desk.commit(1);
        desk.begin(1);
        CHECKS.due("committed when it began", desk.miss(1, 2), false);
        CHECKS.due("though kept", desk.look(2, 0), 2);
        CHECKS.due("no arrow", desk.arrow(3, 2), false);
        CHECKS.due("no commit is pointed at", desk.look(3, 4), 0);
        desk.commit(1);
        CHECKS.due("committed since it began", desk.miss(0, 3), false);
        CHECKS.due("arrow", desk.arrow(1, 3), true);
    }

    private static void arrowEndsWhenTheFirstIsNotKept() {
        CHECKS.sentence("An arrow is known as long as A is kept");
        SerialDesk desk = Desks.with(2);
        desk.miss(0, 2);
        desk.commit(0);
        CHECKS.due("A committed", desk.arrow(1, 2), true);
        desk.begin(0);
        desk.commit(1);
        CHECKS.due("A is not kept", desk.arrow(1, 2), false);
        CHECKS.due("B is", desk.look(2, 0), 2);
        CHECKS.due("no kept one has an arrow", desk.look(2, 5), 0);
        SerialDesk aborted = Desks.with(3);
        aborted.miss(A, 2);
        aborted.miss(P, 3);
        aborted.abort(A);
        CHECKS.due("A was aborted", aborted.look(2, 5), 0);
        aborted.commit(B);
        CHECKS.due("and makes no danger", aborted.look(2, 1), 0);
    }

    private static void arrowEndsWhenTheSecondIsAborted() {
        CHECKS.sentence("and B was not aborted");
        SerialDesk desk = Desks.with(3);
        desk.miss(A, 2);
        desk.abort(P);
        CHECKS.due("B was aborted", desk.arrow(1, 2), false);
        desk.begin(P);
        CHECKS.due("one begins in its session", desk.arrow(1, 4), false);
        CHECKS.due("none is counted", desk.look(4, 5), 0);
        desk.commit(P);
        CHECKS.due("and commits", desk.look(1, 4), 0);
    }

    private static void arrowEndsAloneWithManyKept() {
        CHECKS.sentence("and B was not aborted");
        for (int committed = 0; committed <= 62; committed++) {
            SerialDesk desk = Desks.withCommitted(committed);
            int last = desk.begin(1);
            for (int id = 2; id <= last; id++) {
                desk.miss(0, id);
            }
            desk.abort(1);
            desk.begin(1);
            CHECKS.due("to one in its place", desk.arrow(1, last + 1), false);
            for (int id = 2; id < last; id++) {
                CHECKS.due("to the others", desk.arrow(1, id), true);
            }
        }
    }

    private static void arrowOutlivesTheSecond() {
        CHECKS.sentence("P -> B is known also when B is not kept any more");
        SerialDesk desk = Desks.with(2);
        desk.miss(0, 2);
        desk.commit(1);
        desk.begin(2);
        desk.commit(0);
        CHECKS.due("B is not kept", desk.look(2, 0), 0);
        CHECKS.due("P is", desk.look(1, 0), 2);
        CHECKS.due("its commit is told", desk.look(1, 4), 1);
        desk.begin(1);
        CHECKS.due("one begins in B's place", desk.arrow(1, 4), false);
    }

    private static void dangerNeedsACommittedTarget() {
        CHECKS.sentence("A DANGER are arrows A -> P -> B with B committed");
        SerialDesk desk = Desks.with(3);
        Desks.readAll(desk, A, 0);
        desk.miss(P, 3);
        CHECKS.due("B runs, P writes", desk.write(P, 0), false);
        CHECKS.due("B runs, A misses", desk.miss(A, 2), false);
        CHECKS.due("B runs, P misses", desk.miss(P, 3), false);
        desk.abort(B);
        CHECKS.due("B was aborted, P writes", desk.write(P, 0), false);
        CHECKS.due("B was aborted, A misses", desk.miss(A, 2), false);
        CHECKS.due("B was aborted, P misses", desk.miss(P, 3), false);
        SerialDesk writes = committedTarget();
        CHECKS.due("B committed, P writes", writes.write(P, 0), true);
        SerialDesk misses = committedTarget();
        CHECKS.due("B committed, A misses", misses.miss(A, 2), true);
        SerialDesk late = Desks.with(3);
        late.miss(A, 2);
        late.commit(B);
        CHECKS.due("B committed, P misses", late.miss(P, 3), true);
    }

    /** A has read all of table 0, P -> B is there, and B has committed. */
    private static SerialDesk committedTarget() {
        SerialDesk desk = Desks.with(3);
        Desks.readAll(desk, A, 0);
        desk.miss(P, 3);
        desk.commit(B);
        return desk;
    }

    private static void dangerNeedsAFirstNotBefore() {
        CHECKS.sentence("where neither A nor P committed before B");
        SerialDesk writes = Desks.with(3);
        Desks.readAll(writes, A, 0);
        writes.miss(P, 3);
        writes.commit(A);
        writes.commit(B);
        CHECKS.due("A before B, P writes", writes.write(P, 0), false);
        CHECKS.due("the arrow is there", writes.arrow(1, 2), true);
        SerialDesk misses = Desks.with(3);
        misses.miss(A, 2);
        misses.commit(A);
        misses.commit(B);
        CHECKS.due("A before B, P misses", misses.miss(P, 3), false);
        CHECKS.due("the arrow is there", misses.arrow(2, 3), true);
        SerialDesk after = committedTarget();
        after.commit(A);
        CHECKS.due("A right after B, P writes", after.write(P, 0), true);
        SerialDesk afterMiss = Desks.with(3);
        afterMiss.miss(A, 2);
        afterMiss.commit(B);
        afterMiss.commit(A);
        CHECKS.due("A right after B, P misses", afterMiss.miss(P, 3), true);
    }

    private static void dangerNeedsAPivotNotBefore() {
        CHECKS.sentence("where neither A nor P committed before B");
        SerialDesk before = Desks.with(3);
        before.miss(P, 3);
        before.commit(P);
        before.commit(B);
        CHECKS.due("P before B, A misses", before.miss(A, 2), false);
        CHECKS.due("the arrow is there", before.arrow(1, 2), true);
        SerialDesk after = Desks.with(3);
        after.miss(P, 3);
        after.commit(B);
        after.commit(P);
        CHECKS.due("P right after B, A misses", after.miss(A, 2), true);
    }

    private static void dangerGoesByTheEarliestTarget() {
        CHECKS.sentence("where neither A nor P committed before B");
        SerialDesk desk = Desks.with(5);
        Desks.readAll(desk, A, 0);
        Desks.readAll(desk, A, 1);
        desk.miss(P, 5);
        desk.commit(3);
        desk.commit(A);
        desk.commit(4);
        CHECKS.due("P -> B with B after A", desk.write(P, 0), false);
        CHECKS.due("and one more with B before A", desk.miss(P, 4), true);
        SerialDesk two = Desks.with(5);
        Desks.readAll(two, A, 0);
        two.miss(P, 5);
        two.miss(P, 4);
        two.commit(3);
        two.commit(A);
        two.commit(4);
        CHECKS.due("one before and one after A", two.write(P, 0), true);
        SerialDesk none = Desks.with(5);
        Desks.readAll(none, A, 0);
        none.miss(P, 5);
        none.miss(P, 4);
        none.commit(A);
        none.commit(3);
        none.commit(4);
        CHECKS.due("both after A", none.write(P, 0), false);
    }

    private static void dangerFirstMayBeTheTarget() {
        CHECKS.sentence("A may be B");
        SerialDesk writes = Desks.with(3);
        Desks.readAll(writes, B, 0);
        writes.miss(P, 3);
        writes.commit(B);
        CHECKS.due("P writes what B read", writes.write(P, 0), true);
        SerialDesk misses = Desks.with(3);
        misses.miss(B, 2);
        misses.commit(B);
        CHECKS.due("P misses B", misses.miss(P, 3), true);
        SerialDesk commits = Desks.with(3);
        commits.miss(B, 2);
        commits.miss(P, 3);
        CHECKS.due("neither has committed", commits.look(2, 1), 0);
        commits.commit(B);
        CHECKS.due("B commits", commits.look(2, 1), 1);
    }

    private static void dangerKnowsTargetsNotKept() {
        CHECKS.sentence("P -> B is known also when B is not kept any more");
        SerialDesk desk = Desks.with(2);
        desk.miss(0, 2);
        desk.commit(1);
        desk.begin(2);
        desk.commit(0);
        CHECKS.due("B is not kept", desk.look(2, 0), 0);
        CHECKS.due("A misses P", desk.miss(2, 1), true);
        SerialDesk early = Desks.with(2);
        early.miss(0, 2);
        early.commit(0);
        early.begin(2);
        early.commit(1);
        CHECKS.due("P is not kept", early.look(1, 0), 0);
        CHECKS.due("A misses B alone", early.miss(2, 2), false);
        CHECKS.due("the arrow is there", early.arrow(3, 2), true);
    }

    private static void dangerForgetsAbortedOnes() {
        CHECKS.sentence("An arrow is known as long as A is kept, and B was not aborted.");
        SerialDesk first = Desks.with(3);
        first.miss(A, 2);
        first.commit(B);
        first.abort(A);
        CHECKS.due("A was aborted, P misses B", first.miss(P, 3), false);
        SerialDesk place = Desks.with(3);
        place.miss(A, 2);
        place.abort(A);
        place.begin(A);
        place.commit(B);
        CHECKS.due("one began in A's place, P misses B", place.miss(P, 3), false);
        SerialDesk pivot = Desks.with(3);
        pivot.miss(P, 3);
        pivot.commit(B);
        pivot.abort(P);
        pivot.begin(P);
        CHECKS.due("one began in P's place, A misses it", pivot.miss(A, 4), false);
    }

    private static void arrowThereAlreadyDooms() {
        CHECKS.sentence("If an arrow comes with a write or a miss (there already or not)");
        SerialDesk misses = Desks.with(3);
        CHECKS.due("A misses P", misses.miss(A, 2), false);
        misses.miss(P, 3);
        misses.commit(B);
        CHECKS.due("A is not doomed by the commit", misses.look(1, 1), 0);
        CHECKS.due("A misses P again", misses.miss(A, 2), true);
        SerialDesk writes = committedTarget();
        writes.miss(A, 2);
        CHECKS.due("P is not doomed by A's miss", writes.look(2, 1), 0);
        CHECKS.due("P writes, the arrow is A's", writes.write(P, 0), true);
        SerialDesk second = committedTarget();
        second.miss(A, 2);
        CHECKS.due("P misses B again", second.miss(P, 3), true);
        SerialDesk before = Desks.with(3);
        Desks.readAll(before, A, 0);
        CHECKS.due("P writes", before.write(P, 0), false);
        before.miss(P, 3);
        before.commit(A);
        before.commit(B);
        CHECKS.due("P writes again, A before B", before.write(P, 0), false);
        SerialDesk ring = Desks.with(2);
        Desks.readAll(ring, 0, 0);
        ring.write(1, 0);
        CHECKS.due("0 commits first", ring.commit(0), 1);
        CHECKS.due("1 writes again", ring.write(1, 0), false);
        CHECKS.due("1 misses it", ring.miss(1, 1), true);
    }

    private static void otherArrowsDoNotDoom() {
        CHECKS.sentence("and is one of the two of a danger");
        SerialDesk desk = Desks.with(6);
        Desks.readAll(desk, A, 0);
        desk.miss(P, 3);
        desk.commit(B);
        CHECKS.due("P writes what nobody read", desk.write(P, 1), false);
        CHECKS.due("P misses one that runs", desk.miss(P, 4), false);
        CHECKS.due("A misses B itself", desk.miss(A, 3), false);
        CHECKS.due("A misses one without arrows", desk.miss(A, 5), false);
        CHECKS.due("another writes what A read", desk.write(5, 0), false);
        CHECKS.due("another misses one without arrows", desk.miss(5, 5), false);
        CHECKS.due("nobody else is doomed", desk.look(2, 1) + desk.look(1, 1), 0);
    }

    private static void onlyTheCallerIsDoomed() {
        CHECKS.sentence("the transaction that wrote or missed is DOOMED");
        SerialDesk writes = committedTarget();
        writes.write(P, 0);
        CHECKS.due("P wrote", writes.look(2, 1), 1);
        CHECKS.due("A only read", writes.look(1, 1), 0);
        CHECKS.due("B committed", writes.look(3, 1), 0);
        SerialDesk misses = committedTarget();
        misses.miss(A, 2);
        CHECKS.due("A missed", misses.look(1, 1), 1);
        CHECKS.due("P did nothing", misses.look(2, 1), 0);
        SerialDesk pivot = Desks.with(3);
        pivot.miss(A, 2);
        pivot.commit(B);
        pivot.miss(P, 3);
        CHECKS.due("P missed", pivot.look(2, 1), 1);
        CHECKS.due("A did so before", pivot.look(1, 1), 0);
    }

    private static void commitDoomsEachPivot() {
        CHECKS.sentence("When B commits, each running P with P -> B and some A -> P");
        SerialDesk desk = Desks.with(6);
        for (int s = 1; s < 5; s++) {
            desk.miss(0, s + 1);
            desk.miss(s, 6);
        }
        for (int id = 1; id <= 6; id++) {
            CHECKS.due("before the commit, " + id, desk.look(id, 1), 0);
        }
        CHECKS.due("commit", desk.commit(5), 1);
        CHECKS.due("A", desk.look(1, 1), 0);
        CHECKS.due("B", desk.look(6, 1), 0);
        for (int id = 2; id <= 5; id++) {
            CHECKS.due("P, " + id, desk.look(id, 1), 1);
        }
        CHECKS.due("A may commit", desk.commit(0), 2);
    }

    private static void commitDoomsRunningPivotsAlone() {
        CHECKS.sentence("When B commits, each running P with P -> B and some A -> P");
        SerialDesk desk = Desks.with(4);
        desk.miss(A, 2);
        desk.miss(P, 3);
        desk.commit(P);
        desk.miss(3, 1);
        desk.commit(B);
        CHECKS.due("P committed before", desk.look(2, 1), 0);
        CHECKS.due("P is kept", desk.look(2, 0), 2);
        CHECKS.due("A does not point at B", desk.look(1, 1), 0);
        CHECKS.due("its commit is pointed at", desk.look(2, 4), 2);
    }

    private static void commitNeedsSomeArrowToThePivot() {
        CHECKS.sentence("When B commits, each running P with P -> B and some A -> P");
        SerialDesk desk = Desks.with(4);
        desk.miss(P, 3);
        desk.miss(3, 2);
        desk.abort(3);
        desk.commit(B);
        CHECKS.due("none, as A was aborted", desk.look(2, 1), 0);
        CHECKS.due("P commits", desk.commit(P), 2);
        SerialDesk some = Desks.with(4);
        some.miss(A, 2);
        some.miss(3, 2);
        some.miss(P, 3);
        some.abort(A);
        some.commit(B);
        CHECKS.due("one of two is left", some.look(2, 1), 1);
    }

    private static void commitNeedsAFirstNotBefore() {
        CHECKS.sentence("where A did not commit before, is doomed");
        SerialDesk desk = Desks.with(4);
        desk.miss(A, 2);
        desk.miss(P, 3);
        desk.commit(A);
        desk.commit(B);
        CHECKS.due("A committed right before", desk.look(2, 1), 0);
        CHECKS.due("P commits", desk.commit(P), 3);
        SerialDesk two = Desks.with(4);
        two.miss(A, 2);
        two.miss(3, 2);
        two.miss(P, 3);
        two.commit(A);
        two.commit(B);
        CHECKS.due("one of two did, the other runs", two.look(2, 1), 1);
    }

    private static void commitCountsTheTargetAsFirst() {
        CHECKS.sentence("When B commits, each running P with P -> B and some A -> P");
        SerialDesk desk = Desks.with(2);
        desk.miss(0, 2);
        desk.miss(1, 1);
        CHECKS.due("one of two commits", desk.commit(0), 1);
        CHECKS.due("the other is doomed", desk.look(2, 1), 1);
        CHECKS.due("the other cannot", desk.commit(1), 0);
    }

    private static void commitCountsDoomedFirsts() {
        CHECKS.sentence("where A did not commit before, is doomed");
        SerialDesk desk = Desks.with(3);
        desk.miss(A, 2);
        desk.miss(P, 3);
        desk.doom(A);
        CHECKS.due("A's commit is refused", desk.commit(A), 0);
        desk.commit(B);
        CHECKS.due("so A did not commit", desk.look(2, 1), 1);
    }

    private static void doomedCannotCommit() {
        CHECKS.sentence("A doomed one cannot commit.");
        SerialDesk desk = Desks.with(3);
        desk.miss(A, 2);
        desk.miss(P, 3);
        desk.commit(B);
        CHECKS.due("doomed by a commit", desk.commit(P), 0);
        CHECKS.due("once more", desk.commit(P), 0);
        CHECKS.due("doomed by a miss", desk.miss(A, 2) ? desk.commit(A) : -2, 0);
        SerialDesk writes = committedTarget();
        writes.write(P, 0);
        CHECKS.due("doomed by a write", writes.commit(P), 0);
        writes.abort(A);
        CHECKS.due("also when A is gone", writes.commit(P), 0);
        writes.abort(P);
        CHECKS.due("the session's next", writes.begin(P), 4);
        CHECKS.due("is not doomed", writes.commit(P), 2);
        SerialDesk called = Desks.with(1);
        called.doom(0);
        CHECKS.due("doomed by doom", called.commit(0), 0);
    }

    private static void doomedCanDoAllElse() {
        CHECKS.sentence("A doomed one cannot commit.");
        SerialDesk desk = Desks.with(3);
        desk.doom(0);
        CHECKS.due("read", Desks.readAll(desk, 0, 0), 1);
        desk.write(1, 0);
        CHECKS.due("arrow from it", desk.arrow(1, 2), true);
        Desks.readAll(desk, 1, 1);
        CHECKS.due("write", desk.write(0, 1), true);
        CHECKS.due("arrow to it", desk.arrow(2, 1), true);
        CHECKS.due("miss", desk.miss(0, 3), true);
        CHECKS.due("arrow to another", desk.arrow(1, 3), true);
        CHECKS.due("abort", desk.abort(0), true);
    }
}
