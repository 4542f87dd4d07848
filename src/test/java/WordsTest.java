/** Promises 6 to 8: join, part, single. */
public final class WordsTest {
    private static final Class<IndexOutOfBoundsException> INDEX = IndexOutOfBoundsException.class;

    public static void main(String[] args) {
        join();
        joinChangesNoRows();
        part();
        single();
        singleByHeads();
        wrong();
        Check.end();
    }

    private static void join() {
        Factloom x = new Factloom();
        Check.due("join(4, 2)", 2, x.join(4, 2));
        Check.due("head of 4", 2, x.ofFact(4, 6));
        Check.due("head of 2", 2, x.ofFact(2, 6));
        Check.due("heads", 5, x.store(7));
        Check.due("join with itself", 2, x.join(4, 4));
        Check.due("heads", 5, x.store(7));
        Check.due("join(5, 3)", 3, x.join(5, 3));
        Check.due("join(4, 5) takes all with both heads", 2, x.join(4, 5));
        Check.due("all", 222, x.ofFact(345, 6));
        Check.due("0 and 1 are left alone", 12, x.ofFact(15, 6));
        Check.due("heads", 3, x.store(7));
        Check.due("join(5, 0)", 0, x.join(5, 0));
        Check.due("all", 0, x.ofFact(234, 6));
        Check.due("join(1, 3)", 0, x.join(1, 3));
        Check.due("one head", 1, x.store(7));
    }

    private static void joinChangesNoRows() {
        Factloom x = new Factloom();
        x.tell(123, 2);
        x.tell(143, 7);
        x.commit();
        x.join(2, 4);
        Check.due("one triple", 1, x.store(2));
        Check.due("two rows", 2, x.store(1));
        Check.due("one triple in the past, too", 1, x.past(1));
        Check.due("by heads", true, x.told(143, 1));
        x.part();
        Check.due("two triples", 2, x.store(2));
    }

    private static void part() {
        Factloom x = new Factloom();
        Check.due("part of all alone", 6, x.part());
        x.join(0, 1);
        x.join(2, 3);
        x.join(3, 1);
        Check.due("part", 3, x.part());
        Check.due("heads", 6, x.store(7));
        Check.due("each is its own", 123, x.ofFact(123, 6));
        x.tell(333, 1);
        x.commit();
        Check.due("answers are of all again", false, x.told(222, 1));
    }

    private static void single() {
        Factloom x = new Factloom();
        x.tell(12, 1);
        x.tell(13, 1);
        x.tell(113, 1);
        x.tell(114, 1);
        x.tell(115, 1);
        x.tell(220, 1);
        x.tell(210, 1);
        x.commit();
        Check.due("a new shape is not refused", 2, x.single(1, true));
        Check.due("store(8)", 2, x.store(8));
        Check.due("store(11)", 2, x.store(11));
        Check.due("again", 2, x.single(1, true));
        Check.due("another one that is kept", 2, x.single(5, true));
        Check.due("store(11)", 34, x.store(11));
        Check.due("not any more", 0, x.single(1, false));
        Check.due("store(11)", 32, x.store(11));
        Check.due("never was", 0, x.single(0, false));
        Check.due("store(11)", 32, x.store(11));
    }

    private static void singleByHeads() {
        Factloom x = new Factloom();
        x.tell(12, 1);
        x.tell(43, 1);
        x.commit();
        Check.due("not broken", 0, x.single(4, true));
        Check.due("store(8)", 0, x.store(8));
        x.join(1, 4);
        Check.due("broken by a join, as the head of 4 is 1", 1, x.store(8));
        Check.due("the word itself stays single", 16, x.store(11));
        Check.due("1 itself is not single", 1, x.single(1, false));
        x.join(2, 3);
        Check.due("unlike thirds alone break", 0, x.store(8));
        x.part();
        Check.due("apart again", 0, x.store(8));
        Factloom y = new Factloom();
        y.tell(12, 1);
        y.tell(113, 1);
        y.commit();
        y.single(1, true);
        y.join(0, 1);
        Check.due("unlike seconds by then, 012 and 003", 1, y.store(8));
        Factloom z = new Factloom();
        z.single(0, true);
        z.tell(102, 1);
        z.commit();
        z.rule(603, 602, -1);
        Check.due("only what is told breaks", 0, z.store(8));
    }

    private static void wrong() {
        Factloom x = new Factloom();
        int[] noWords = {-1, 6, 10, Integer.MAX_VALUE, Integer.MIN_VALUE};
        for (int word : noWords) {
            Check.dueThrow("join(" + word + ", 1)", INDEX, () -> x.join(word, 1));
            Check.dueThrow("join(1, " + word + ")", INDEX, () -> x.join(1, word));
            Check.dueThrow("single(" + word + ", true)", INDEX, () -> x.single(word, true));
            Check.dueThrow("single(" + word + ", false)", INDEX, () -> x.single(word, false));
        }
        Check.due("nothing changed", 6, x.store(7));
        Check.due("nothing changed", 0, x.store(11));
    }
}
