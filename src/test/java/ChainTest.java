/** Promise 21: chain. */
public final class ChainTest {
    private static final Class<IndexOutOfBoundsException> INDEX = IndexOutOfBoundsException.class;

    public static void main(String[] args) {
        chain();
        chainOfWhatIsMade();
        chainByHeads();
        chainWrong();
        Check.end();
    }

    private static Factloom circle() {
        Factloom x = new Factloom();
        for (int word = 0; word < 6; word++) {
            x.tell(word * 100 + 30 + (word + 1) % 6, 1);
        }
        x.commit();
        return x;
    }

    private static void chain() {
        Factloom x = circle();
        for (int from = 0; from < 6; from++) {
            for (int to = 0; to < 6; to++) {
                String call = "(" + from + ", " + to + ")";
                Check.due("chain by 3 " + call, (to - from + 6) % 6, x.chain(3, from, to));
                Check.due("chain by 2 " + call, from == to ? 0 : -1, x.chain(2, from, to));
            }
        }
        x.tell(33, 1);
        x.commit();
        Check.due("a shorter one", 3, x.chain(3, 0, 5));
        x.unsay(334);
        x.commit();
        Check.due("none with a gap", -1, x.chain(3, 0, 5));
    }

    private static void chainOfWhatIsMade() {
        Factloom x = circle();
        x.rule(638, 637, 738);
        Check.due("all are made", 1, x.chain(3, 0, 5));
        x.unrule();
        x.rule(234, 132, -1);
        Check.due("over one that is made", 4, x.chain(3, 0, 5));
        Check.due("past its start", 2, x.chain(3, 3, 5));
    }

    private static void chainByHeads() {
        Factloom x = circle();
        x.join(0, 4);
        Check.due("from the same head", 1, x.chain(3, 0, 5));
        Check.due("both the same", 0, x.chain(3, 0, 4));
        x.join(2, 3);
        Check.due("the word by its head", 1, x.chain(2, 4, 5));
        Check.due("over joined ones", 3, x.chain(2, 5, 2));
        x.join(2, 0);
        Check.due("to joined ones", 1, x.chain(3, 5, 4));
    }

    private static void chainWrong() {
        Factloom x = circle();
        int[] noWords = {-1, 6, Integer.MAX_VALUE, Integer.MIN_VALUE};
        for (int word : noWords) {
            Check.dueThrow("word " + word, INDEX, () -> x.chain(word, 0, 0));
            Check.dueThrow("from " + word, INDEX, () -> x.chain(0, word, 0));
            Check.dueThrow("to " + word, INDEX, () -> x.chain(0, 0, word));
            Check.dueThrow("from and to " + word, INDEX, () -> x.chain(0, word, word));
        }
    }
}
