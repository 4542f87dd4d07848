/** Promises 24 and 25: broken, lost. */
public final class WouldBeTest {
    private static final Class<IllegalArgumentException> ARGUMENT = IllegalArgumentException.class;
    private static final Class<IllegalStateException> STATE = IllegalStateException.class;

    public static void main(String[] args) {
        broken();
        brokenByHeads();
        brokenThoughItCannotBe();
        lost();
        lostByHeads();
        lostWrong();
        Check.end();
    }

    private static void broken() {
        Factloom x = new Factloom();
        Check.due("of nothing", 0, x.broken());
        x.single(1, true);
        x.tell(12, 1);
        x.tell(13, 1);
        x.tell(212, 1);
        x.tell(213, 1);
        x.tell(313, 1);
        Check.due("two heads would be", 2, x.broken());
        Check.due("none is", 0, x.store(8));
        Check.due("the batch stays", 5, x.store(6));
        Check.due("no moment more", 0, x.store(0));
        Check.due("no row", 0, x.store(1));
        Check.due("nothing is told", 0, x.store(2));
        x.unsay(13);
        Check.due("one would be", 1, x.broken());
        x.single(1, false);
        Check.due("without a shape", 0, x.broken());
        x.commit();
        x.single(1, true);
        x.unsay(212);
        Check.due("one is", 1, x.store(8));
        Check.due("mended", 0, x.broken());
        x.drop();
        Check.due("not without the batch", 1, x.broken());
    }

    private static void brokenByHeads() {
        Factloom x = new Factloom();
        x.single(1, true);
        x.tell(12, 1);
        x.tell(13, 1);
        x.tell(112, 1);
        x.tell(114, 1);
        Check.due("two", 2, x.broken());
        x.join(2, 3);
        Check.due("one", 1, x.broken());
        x.join(0, 1);
        Check.due("one of both, as 002 and 004", 1, x.broken());
        x.join(2, 4);
        Check.due("none", 0, x.broken());
    }

    private static void brokenThoughItCannotBe() {
        Factloom x = new Factloom();
        for (int k = 0; k < 60; k++) {
            x.tell(k / 36 * 100 + k / 6 % 6 * 10 + k % 6, 1);
            if (k % 12 == 11) {
                x.commit();
            }
        }
        x.single(5, true);
        for (int k = 0; k < 12; k++) {
            x.tell(300 + k / 6 * 100 + 50 + k % 6, 1);
        }
        Check.due("the head 0 and two more", 3, x.broken());
        Check.due("60 rows are left", 60, x.store(1));
        Factloom y = new Factloom();
        for (int k = 0; k < 50; k++) {
            y.commit();
        }
        y.single(0, true);
        y.tell(1, 1);
        y.tell(2, 1);
        Check.due("behind the last moment", 1, y.broken());
    }

    private static void lost() {
        Factloom x = new Factloom();
        x.tell(1, 1);
        x.tell(102, 1);
        x.tell(203, 1);
        x.tell(3, 1);
        x.commit();
        Check.due("itself alone", 1, x.lost(1));
        x.rule(608, 607, 708);
        Check.due("with what is made of it alone", 2, x.lost(1));
        Check.due("with what is made of it alone", 3, x.lost(102));
        Check.due("nothing, as it is made, too", 0, x.lost(3));
        Check.due("nothing is changed", 6, x.store(3));
        Check.due("nothing is changed", "told", x.why(1));
        x.tell(500, 1);
        x.unsay(102);
        Check.due("the batch does not count", 2, x.lost(1));
    }

    private static void lostByHeads() {
        Factloom x = new Factloom();
        x.tell(12, 1);
        x.tell(13, 1);
        x.tell(400, 1);
        x.commit();
        x.rule(5, 12, -1);
        x.join(2, 3);
        Check.due("all rows that are it", 2, x.lost(13));
        x.part();
        Check.due("one row", 1, x.lost(13));
        Check.due("one row", 2, x.lost(12));
        x.join(5, 4);
        Check.due("asked by another word", 1, x.lost(500));
    }

    private static void lostWrong() {
        Factloom x = new Factloom();
        x.tell(1, 1);
        Check.dueThrow("not yet told", STATE, () -> x.lost(1));
        x.commit();
        x.rule(2, 1, -1);
        Check.dueThrow("made only", STATE, () -> x.lost(2));
        x.unsay(1);
        Check.due("still told", 2, x.lost(1));
        x.commit();
        Check.dueThrow("not any more", STATE, () -> x.lost(1));
        int[] noTriples = {-1, 6, 60, 556, 600, Integer.MAX_VALUE, Integer.MIN_VALUE};
        for (int triple : noTriples) {
            Check.dueThrow("lost(" + triple + ")", ARGUMENT, () -> x.lost(triple));
        }
    }
}
