/** The boundary cases of part 2 and of promises 1 to 5, 15 and 16: moments, rows, trust, the batch, shapes. */
public final class MomentEdgesTest {
    private static final Class<IllegalArgumentException> ARGUMENT = IllegalArgumentException.class;
    private static final Class<IllegalStateException> STATE = IllegalStateException.class;
    private static final Class<IndexOutOfBoundsException> INDEX = IndexOutOfBoundsException.class;

    public static void main(String[] args) {
        momentZero();
        momentFifty();
        momentsAsked();
        rowsBeginAndEnd();
        rowsThatNeverHold();
        rowsOfOneBatch();
        justItByWords();
        unsaidByHeads();
        trustOneToNine();
        greaterTrustOfBoth();
        sixtyRows();
        sixtyRowsAndNoMore();
        rowsThatAreNoMore();
        twelveInTheBatch();
        batchEmptied();
        batchOfNone();
        shapesBroken();
        shapesNotBroken();
        commitBehindAShape();
        Check.end();
    }

    /** "MOMENT is 0 at first". */
    private static void momentZero() {
        Factloom x = new Factloom();
        Check.due("store(0)", 0, x.store(0));
        Check.due("told(0, 0)", false, x.told(0, 0));
        Check.due("past(0)", 0, x.past(0));
        Check.dueThrow("told(0, 1)", INDEX, () -> x.told(0, 1));
        Check.dueThrow("past(1)", INDEX, () -> x.past(1));
        Check.dueThrow("told(0, -1)", INDEX, () -> x.told(0, -1));
        Check.dueThrow("past(-1)", INDEX, () -> x.past(-1));
    }

    /** "50 at most", "Throws IllegalStateException if MOMENT is 50". */
    private static void momentFifty() {
        Factloom x = Stores.atMoment(49);
        x.tell(4, 1);
        Check.due("the fiftieth commit", 50, x.commit());
        Check.due("store(0)", 50, x.store(0));
        Check.due("told from 50 on", true, x.told(4, 50));
        Check.due("not at 49", false, x.told(4, 49));
        Check.due("its moment", 50, x.ofFact(4, 5));
        Check.dueThrow("a commit of none", STATE, x::commit);
        x.unsay(4);
        Check.dueThrow("a commit of an unsay", STATE, x::commit);
        Check.due("told still", true, x.told(4, 50));
        Check.due("the batch stays", 1, x.drop());
        Check.dueThrow("told(4, 51)", INDEX, () -> x.told(4, 51));
        Check.dueThrow("past(51)", INDEX, () -> x.past(51));
        Check.due("past(50)", 2, x.past(50));
    }

    /** "if moment is not 0 to MOMENT": the last one and the next one, in each MOMENT. */
    private static void momentsAsked() {
        Factloom x = new Factloom();
        x.tell(555, 1);
        for (int now = 1; now <= 50; now++) {
            x.commit();
            int next = now + 1;
            Check.due("told(555, " + now + ")", true, x.told(555, now));
            Check.due("past(" + now + ")", 1, x.past(now));
            Check.dueThrow("told(555, " + next + ")", INDEX, () -> x.told(555, next));
            Check.dueThrow("past(" + next + ")", INDEX, () -> x.past(next));
        }
        Check.due("told(555, 0)", false, x.told(555, 0));
        Check.due("past(0)", 0, x.past(0));
    }

    private static void dueTold(Factloom x, int triple, String due) {
        for (int moment = 0; moment < due.length(); moment++) {
            String call = "told(" + triple + ", " + moment + ")";
            Check.due(call, due.charAt(moment) == '1', x.told(triple, moment));
        }
    }

    /** "each from a MOMENT on, perhaps till another one (at which it does not hold any more)". */
    private static void rowsBeginAndEnd() {
        Factloom x = new Factloom();
        x.commit();
        x.tell(12, 1);
        x.commit();
        x.commit();
        x.unsay(12);
        x.commit();
        x.tell(12, 1);
        x.commit();
        dueTold(x, 12, "001101");
        Check.due("from the new row's moment on", 5, x.ofFact(12, 5));
        Check.due("two rows", 2, x.store(1));
        x.unsay(12);
        x.tell(12, 1);
        x.commit();
        dueTold(x, 12, "0011011");
        Check.due("one ends where the next one begins", 6, x.ofFact(12, 5));
        Check.due("three rows", 3, x.store(1));
        Check.due("it counts once", 1, x.past(6));
    }

    /** Told and unsaid in one BATCH: from a MOMENT till the same one. */
    private static void rowsThatNeverHold() {
        Factloom x = new Factloom();
        x.tell(12, 1);
        x.unsay(12);
        x.commit();
        dueTold(x, 12, "00");
        Check.due("a row ever", 1, x.store(1));
        Check.due("none is told", 0, x.past(1));
        Check.due("no moment of a row that holds", -1, x.ofFact(12, 5));
        x.commit();
        dueTold(x, 12, "000");
    }

    /** "one by one": the order in the BATCH counts. */
    private static void rowsOfOneBatch() {
        Factloom x = new Factloom();
        x.tell(12, 4);
        x.commit();
        x.tell(12, 9);
        x.unsay(12);
        x.commit();
        dueTold(x, 12, "010");
        Check.due("told again while it held: no row more", 1, x.store(1));
        x.unsay(12);
        x.tell(12, 3);
        x.commit();
        dueTold(x, 12, "0101");
        Check.due("unsaid first: a row", 2, x.store(1));
        Check.due("with its own trust", 3, x.ofFact(12, 4));
        x.unsay(12);
        x.unsay(12);
        x.commit();
        dueTold(x, 12, "01010");
        Check.due("unsaid twice", 2, x.store(1));
    }

    /** "if no ROW that holds is just it (by WORDS, not HEADS)". */
    private static void justItByWords() {
        Factloom x = new Factloom();
        x.join(1, 2);
        x.tell(100, 2);
        x.tell(200, 9);
        x.commit();
        Check.due("one triple of heads", 1, x.past(1));
        Check.due("two rows", 2, x.store(1));
        x.tell(100, 5);
        x.commit();
        Check.due("no row more", 2, x.store(1));
        x.part();
        Check.due("the trust of the one", 5, x.ofFact(100, 4));
        Check.due("the trust of the other one", 9, x.ofFact(200, 4));
    }

    /** "all ROWS that hold and are a TRIPLE that is unsaid (by HEADS)": by the HEADS at the COMMIT. */
    private static void unsaidByHeads() {
        Factloom x = new Factloom();
        x.tell(100, 1);
        x.tell(200, 1);
        x.tell(300, 1);
        x.commit();
        x.unsay(100);
        x.join(2, 1);
        x.commit();
        Check.due("joined behind the unsay, before the commit", 1, x.past(2));
        x.part();
        Check.due("the other row ended, too", false, x.told(200, 2));
        Check.due("this one did not", true, x.told(300, 2));
        x.join(3, 5);
        x.unsay(500);
        x.part();
        x.commit();
        Check.due("parted before the commit", true, x.told(300, 3));
    }

    /** "TRUST (1 to 9)", "Throws IllegalArgumentException if .. trust not 1 to 9". */
    private static void trustOneToNine() {
        for (int trust = 1; trust <= 9; trust++) {
            Factloom x = new Factloom();
            Check.due("tell(5, " + trust + ")", 1, x.tell(5, trust));
            x.commit();
            Check.due("its merit", trust, x.ofFact(5, 4));
        }
        for (int no : new int[] {0, 10, -1, 11, -9, Stores.MIN, Stores.MAX}) {
            Factloom x = new Factloom();
            Check.dueThrow("tell(5, " + no + ")", ARGUMENT, () -> x.tell(5, no));
            Check.due("none in the batch", 0, x.store(6));
        }
    }

    /** "otherwise that ROW has the greater TRUST of both": a lesser one, the same one, a greater one. */
    private static void greaterTrustOfBoth() {
        for (int before = 1; before <= 9; before++) {
            for (int then = 1; then <= 9; then++) {
                Factloom x = new Factloom();
                x.tell(5, before);
                x.commit();
                x.tell(5, then);
                x.commit();
                Check.due("trust " + before + ", then " + then, Math.max(before, then), x.ofFact(5, 4));
                Check.due("one row", 1, x.store(1));
                Check.due("from its first moment on", 1, x.ofFact(5, 5));
            }
        }
        Factloom x = new Factloom();
        x.tell(5, 9);
        x.commit();
        x.unsay(5);
        x.commit();
        x.tell(5, 1);
        x.commit();
        Check.due("a row that does not hold lends no trust", 1, x.ofFact(5, 4));
    }

    /** "at most 60 ever". */
    private static void sixtyRows() {
        Factloom x = Stores.rows(60);
        Check.due("60 rows", 60, x.store(1));
        Check.due("all hold", 60, x.past(5));
        Factloom y = Stores.rows(48);
        for (int nth = 48; nth < 60; nth++) {
            y.tell(Stores.nthTriple(nth), 1);
        }
        Check.due("48 and 12 are 60", 5, y.commit());
        Factloom z = Stores.rows(49);
        for (int nth = 49; nth < 61; nth++) {
            z.tell(Stores.nthTriple(nth), 1);
        }
        Check.dueThrow("49 and 12 are 61", STATE, z::commit);
        Check.due("49 stay", 49, z.store(1));
        Check.due("12 stay in the batch", 12, z.store(6));
        z.drop();
        for (int nth = 49; nth < 60; nth++) {
            z.tell(Stores.nthTriple(nth), 1);
        }
        Check.due("49 and 11 are 60", 6, z.commit());
    }

    /** With 60 ROWS: what makes no ROW more can be COMMITTED, the smallest thing that makes one cannot. */
    private static void sixtyRowsAndNoMore() {
        Factloom x = Stores.rows(60);
        Check.due("a batch of none", 6, x.commit());
        x.tell(0, 9);
        Check.due("told again", 7, x.commit());
        Check.due("by the greater trust", 9, x.ofFact(0, 4));
        x.unsay(0);
        Check.due("unsaid", 8, x.commit());
        x.tell(0, 1);
        Check.dueThrow("a row more", STATE, x::commit);
        x.unsay(1);
        Check.dueThrow("a row more, though one ends", STATE, x::commit);
        x.drop();
        x.tell(555, 1);
        x.unsay(555);
        Check.dueThrow("a row more that never holds", STATE, x::commit);
        Check.due("60 rows", 60, x.store(1));
        Check.due("moment 8", 8, x.store(0));
    }

    /** "ever": ROWS that do not hold any more count. */
    private static void rowsThatAreNoMore() {
        Factloom x = new Factloom();
        for (int k = 1; k <= 10; k++) {
            for (int n = 0; n < 6; n++) {
                x.tell(n, 1);
                x.unsay(n);
            }
            Check.due("commit", k, x.commit());
            Check.due("rows", 6 * k, x.store(1));
        }
        Check.due("none holds", 0, x.store(2));
        x.tell(0, 1);
        Check.dueThrow("the row 61", STATE, x::commit);
    }

    /** "The BATCH .. (none at first; at most 12)", "Throws IllegalStateException if there are 12". */
    private static void twelveInTheBatch() {
        for (int tells = 0; tells <= 12; tells++) {
            Factloom x = new Factloom();
            Check.due("none at first", 0, x.store(6));
            for (int k = 1; k <= 12; k++) {
                Check.due("the entry " + k, k, k <= tells ? x.tell(5, 1) : x.unsay(5));
            }
            Check.dueThrow("a tell more", STATE, () -> x.tell(5, 1));
            Check.dueThrow("an unsay more", STATE, () -> x.unsay(5));
            Check.due("12", 12, x.store(6));
        }
    }

    /** "Then the BATCH is empty", "Empties the BATCH": there is room for 12 again. */
    private static void batchEmptied() {
        Factloom x = new Factloom();
        for (int round = 0; round < 3; round++) {
            for (int k = 1; k <= 12; k++) {
                Check.due("the entry " + k, k, x.tell(Stores.nthTriple(12 * round + k), 1));
            }
            if (round == 1) {
                Check.due("drop of 12", 12, x.drop());
            } else {
                x.commit();
            }
            Check.due("empty", 0, x.store(6));
            Check.due("drop of none", 0, x.drop());
        }
        Check.due("dropped ones are no rows", 24, x.store(1));
        x.tell(0, 1);
        Check.due("drop of one", 1, x.drop());
    }

    /** A BATCH of none: MOMENT is 1 more, and nothing else. */
    private static void batchOfNone() {
        Factloom x = new Factloom();
        Check.due("commit", 1, x.commit());
        Check.due("no row", 0, x.store(1));
        Check.due("what was never told is unsaid", 1, x.unsay(5));
        Check.due("commit", 2, x.commit());
        Check.due("no row", 0, x.store(1));
    }

    /** "two TRIPLES that are TOLD now, .. that of the SINGLE WORD second, and unlike HEADS third". */
    private static void shapesBroken() {
        Factloom x = new Factloom();
        x.tell(10, 1);
        x.tell(15, 1);
        x.tell(510, 1);
        x.tell(515, 1);
        x.commit();
        Check.due("a new shape is not refused", 2, x.single(1, true));
        Check.due("store(8)", 2, x.store(8));
        x.single(0, true);
        x.single(2, true);
        Check.due("words without a fact break nothing", 2, x.store(8));
        Factloom y = new Factloom();
        y.single(1, true);
        y.tell(10, 1);
        y.tell(125, 1);
        y.commit();
        Check.due("not broken yet", 0, y.store(8));
        Check.due("a join is not refused", 1, y.join(2, 1));
        Check.due("unlike firsts", 0, y.store(8));
        Check.due("a join is not refused", 0, y.join(0, 1));
        Check.due("000 and 005", 1, y.store(8));
    }

    /** One short of BROKEN: one TRIPLE, like thirds, another first, another second, not told, not now. */
    private static void shapesNotBroken() {
        Factloom x = new Factloom();
        x.single(1, true);
        x.tell(12, 1);
        Check.due("one triple", 1, x.commit());
        x.tell(12, 5);
        Check.due("the same again", 2, x.commit());
        x.tell(113, 1);
        Check.due("another first", 3, x.commit());
        x.tell(23, 1);
        Check.due("another second", 4, x.commit());
        x.rule(14, 12, -1);
        Check.due("what is made is not told", 0, x.store(8));
        Check.due("a commit of none", 5, x.commit());
        x.unsay(12);
        x.tell(15, 1);
        Check.due("what is not told now", 6, x.commit());
        x.join(5, 2);
        x.tell(12, 1);
        Check.due("like heads third", 7, x.commit());
        Check.due("none is broken", 0, x.store(8));
    }

    /** "It cannot be, if a SHAPE would be BROKEN behind it": what broke it is not asked. */
    private static void commitBehindAShape() {
        Factloom x = new Factloom();
        x.tell(12, 1);
        x.tell(13, 1);
        x.commit();
        x.single(1, true);
        Check.dueThrow("a batch of none, broken by a new shape", STATE, x::commit);
        x.tell(200, 1);
        Check.dueThrow("a batch that has no part in it", STATE, x::commit);
        x.unsay(13);
        Check.due("a batch that mends it", 2, x.commit());
        x.tell(412, 1);
        x.tell(433, 1);
        x.commit();
        x.join(3, 1);
        Check.dueThrow("broken by a join", STATE, x::commit);
        x.part();
        Check.due("mended by a part", 4, x.commit());
        x.join(3, 2);
        x.tell(13, 1);
        Check.due("like thirds", 5, x.commit());
        x.part();
        Check.dueThrow("broken by a part", STATE, x::commit);
        x.single(1, false);
        Check.due("mended by one single word less", 6, x.commit());
        x.single(5, true);
        x.tell(50, 1);
        x.tell(51, 1);
        x.unsay(50);
        Check.due("only what is behind it counts", 7, x.commit());
    }
}
