/** Promises 1 to 5: a new object, tell, unsay, drop, commit. */
public final class BatchTest {
    private static final Class<IllegalArgumentException> ARGUMENT = IllegalArgumentException.class;
    private static final Class<IllegalStateException> STATE = IllegalStateException.class;

    public static void main(String[] args) {
        newObject();
        tell();
        tellWrong();
        unsay();
        drop();
        commitRows();
        commitWithinOneBatch();
        commitByHeads();
        commitRefusedByShape();
        commitRefusedByRows();
        commitRefusedByMoment();
        Check.end();
    }

    private static void newObject() {
        Factloom x = new Factloom();
        int[] due = {0, 0, 0, 0, -1, 0, 0, 6, 0, 0, 0, 0};
        for (int what = 0; what < due.length; what++) {
            Check.due("new: store(" + what + ")", due[what], x.store(what));
        }
        Check.due("new: answers()", 1, x.answers());
        Check.due("new: answer(0)", 9999, x.answer(0));
        Check.due("new: past(0)", 0, x.past(0));
        Check.due("new: isSound()", true, x.isSound());
    }

    private static void tell() {
        Factloom x = new Factloom();
        Check.due("tell first", 1, x.tell(0, 1));
        Check.due("tell second, the same", 2, x.tell(0, 9));
        Check.due("tell third", 3, x.tell(555, 5));
        Check.due("store(6)", 3, x.store(6));
        Check.due("not told before commit", false, x.told(0, 0));
        Check.due("no moment by it", 0, x.store(0));
        for (int k = 4; k <= 12; k++) {
            Check.due("tell " + k, k, x.tell(100, 1));
        }
        Check.dueThrow("tell when full", STATE, () -> x.tell(100, 1));
        Check.dueThrow("argument before state", ARGUMENT, () -> x.tell(600, 1));
        Check.dueThrow("trust before state", ARGUMENT, () -> x.tell(100, 0));
        Check.due("still 12", 12, x.store(6));
    }

    private static void tellWrong() {
        Factloom x = new Factloom();
        int[] noTriples = {-1, -100, 6, 9, 60, 90, 600, 556, 560, 566, 999, 1000, 10000,
            Integer.MAX_VALUE, Integer.MIN_VALUE};
        for (int triple : noTriples) {
            Check.dueThrow("tell(" + triple + ", 1)", ARGUMENT, () -> x.tell(triple, 1));
            Check.dueThrow("unsay(" + triple + ")", ARGUMENT, () -> x.unsay(triple));
        }
        int[] noTrusts = {0, 10, -1, Integer.MAX_VALUE, Integer.MIN_VALUE};
        for (int trust : noTrusts) {
            Check.dueThrow("tell(0, " + trust + ")", ARGUMENT, () -> x.tell(0, trust));
        }
        Check.due("nothing came in", 0, x.store(6));
        Check.due("trust 9 is one", 1, x.tell(5, 9));
    }

    private static void unsay() {
        Factloom x = new Factloom();
        Check.due("unsay what was never told", 1, x.unsay(123));
        x.tell(1, 1);
        Check.due("unsay third", 3, x.unsay(1));
        Check.due("commit", 1, x.commit());
        Check.due("it was never told", false, x.told(1, 1));
        Check.due("but is a row", 1, x.store(1));
        for (int k = 1; k <= 12; k++) {
            Check.due("unsay " + k, k, x.unsay(2));
        }
        Check.dueThrow("unsay when full", STATE, () -> x.unsay(2));
        Check.dueThrow("argument before state", ARGUMENT, () -> x.unsay(6));
    }

    private static void drop() {
        Factloom x = new Factloom();
        Check.due("drop of none", 0, x.drop());
        x.tell(1, 1);
        x.unsay(2);
        Check.due("drop of two", 2, x.drop());
        Check.due("empty then", 0, x.store(6));
        Check.due("drop again", 0, x.drop());
        x.tell(3, 1);
        x.commit();
        Check.due("only what came after is told", 1, x.store(2));
        Check.due("it", true, x.told(3, 1));
        Check.due("not the dropped one", false, x.told(1, 1));
    }

    private static void commitRows() {
        Factloom x = new Factloom();
        x.tell(12, 4);
        Check.due("commit", 1, x.commit());
        Check.due("empty then", 0, x.store(6));
        Check.due("not told before", false, x.told(12, 0));
        Check.due("told from then on", true, x.told(12, 1));
        x.tell(12, 3);
        x.commit();
        Check.due("no row more", 1, x.store(1));
        Check.due("the greater trust stays", 4, x.ofFact(12, 4));
        Check.due("from its first moment on", 1, x.ofFact(12, 5));
        x.tell(12, 6);
        x.commit();
        Check.due("the greater trust comes", 6, x.ofFact(12, 4));
        Check.due("no row more", 1, x.store(1));
        x.unsay(12);
        Check.due("commit of an unsay", 4, x.commit());
        Check.due("told till then", true, x.told(12, 3));
        Check.due("not then", false, x.told(12, 4));
        x.tell(12, 2);
        x.commit();
        Check.due("a new row", 2, x.store(1));
        Check.due("with its own trust", 2, x.ofFact(12, 4));
        Check.due("from its own moment on", 5, x.ofFact(12, 5));
        Check.due("the gap stays", false, x.told(12, 4));
        Check.due("an empty commit counts, too", 6, x.commit());
    }

    private static void commitWithinOneBatch() {
        Factloom x = new Factloom();
        x.tell(12, 4);
        x.tell(12, 7);
        x.tell(12, 5);
        x.commit();
        Check.due("one row for one triple", 1, x.store(1));
        Check.due("the greatest trust", 7, x.ofFact(12, 4));
        x.unsay(12);
        x.tell(12, 1);
        x.unsay(12);
        x.tell(12, 2);
        x.commit();
        Check.due("one row each time", 3, x.store(1));
        Check.due("the last one holds", 2, x.ofFact(12, 4));
        Check.due("from this moment on", 2, x.ofFact(12, 5));
        Check.due("told through", 1, x.past(1));
        Check.due("told through", 1, x.past(2));
    }

    private static void commitByHeads() {
        Factloom x = new Factloom();
        x.join(1, 2);
        x.tell(101, 3);
        x.tell(202, 5);
        x.commit();
        Check.due("rows are by words", 2, x.store(1));
        Check.due("triples by heads", 1, x.store(2));
        Check.due("trust of both", 5, x.ofFact(102, 4));
        x.unsay(201);
        x.commit();
        Check.due("unsaid by heads", 0, x.store(2));
        x.part();
        Check.due("both are", false, x.told(101, 2));
        Check.due("both are", false, x.told(202, 2));
        Check.due("both were", true, x.told(202, 1));
    }

    private static void commitRefusedByShape() {
        Factloom x = new Factloom();
        x.single(1, true);
        x.tell(12, 1);
        x.commit();
        x.tell(13, 1);
        Check.dueThrow("commit that breaks", STATE, x::commit);
        Check.due("moment stays", 1, x.store(0));
        Check.due("batch stays", 1, x.store(6));
        Check.due("rows stay", 1, x.store(1));
        x.unsay(12);
        Check.due("only what is behind it counts", 2, x.commit());
        x.drop();
        x.tell(12, 1);
        Check.dueThrow("breaks again", STATE, x::commit);
        x.join(2, 3);
        Check.due("not if the thirds are one", 3, x.commit());
        x.part();
        Check.due("broken by a part", 1, x.store(8));
        Check.dueThrow("then even an empty batch is refused", STATE, x::commit);
        x.unsay(13);
        Check.due("till it is mended", 4, x.commit());
    }

    private static void commitRefusedByRows() {
        Factloom x = new Factloom();
        for (int k = 0; k < 59; k++) {
            x.tell(k / 36 * 100 + k / 6 % 6 * 10 + k % 6, 1);
            if (k % 12 == 11 || k == 58) {
                x.commit();
            }
        }
        Check.due("59 rows", 59, x.store(1));
        x.tell(500, 1);
        x.tell(501, 1);
        Check.dueThrow("61 rows", STATE, x::commit);
        Check.due("nothing changed", 59, x.store(1));
        Check.due("nothing changed", 2, x.store(6));
        x.drop();
        x.tell(500, 1);
        x.tell(500, 3);
        x.tell(0, 2);
        Check.due("60 rows", 6, x.commit());
        Check.due("60 rows", 60, x.store(1));
        x.tell(501, 1);
        x.unsay(501);
        Check.dueThrow("rows that never hold count, too", STATE, x::commit);
        x.drop();
        x.unsay(500);
        x.tell(1, 9);
        Check.due("no row more", 7, x.commit());
        Check.due("60 rows ever", 60, x.store(1));
        x.tell(500, 1);
        Check.dueThrow("what was unsaid needs a new row", STATE, x::commit);
    }

    private static void commitRefusedByMoment() {
        Factloom x = new Factloom();
        x.tell(5, 1);
        for (int k = 1; k <= 50; k++) {
            Check.due("commit " + k, k, x.commit());
        }
        x.tell(4, 1);
        Check.dueThrow("no moment 51", STATE, x::commit);
        Check.due("batch stays", 1, x.store(6));
        Check.due("told at 50", true, x.told(5, 50));
        Check.due("broken() needs no moment", 0, x.broken());
    }
}
