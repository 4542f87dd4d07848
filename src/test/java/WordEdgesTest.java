import java.util.Arrays;

/** The boundary cases of part 1 and of promises 6 to 8: words, triples, patterns, letters, heads. */
public final class WordEdgesTest {
    private static final Class<IllegalArgumentException> ARGUMENT = IllegalArgumentException.class;
    private static final Class<IllegalStateException> STATE = IllegalStateException.class;
    private static final Class<IndexOutOfBoundsException> INDEX = IndexOutOfBoundsException.class;

    public static void main(String[] args) {
        wordsOfJoin();
        wordsOfSingle();
        wordsOfChain();
        allTriples();
        noTriples();
        allPatterns();
        noPatterns();
        lettersAreSixToNine();
        headsAtFirst();
        joinTakesTheSmallerHead();
        joinOfOne();
        joinTakesAllOfBoth();
        joinTillOneHead();
        partOfNoneAndOfAll();
        partLeavesTheRest();
        headsOfNow();
        lettersAreBoundToHeads();
        singleWordItself();
        singleSets();
        singleCountsHeads();
        Check.end();
    }

    /** "WORDS 0 to 5", "Throws IndexOutOfBoundsException if there is no such WORD, of one of both". */
    private static void wordsOfJoin() {
        for (int one = 0; one <= 5; one++) {
            for (int other = 0; other <= 5; other++) {
                int a = one;
                int b = other;
                Check.due("join(" + a + ", " + b + ")", Math.min(a, b), new Factloom().join(a, b));
            }
        }
        for (int no : Stores.NO_WORDS) {
            for (int word : new int[] {0, 5, no}) {
                Check.dueThrow("join(" + no + ", " + word + ")", INDEX, () -> new Factloom().join(no, word));
                Check.dueThrow("join(" + word + ", " + no + ")", INDEX, () -> new Factloom().join(word, no));
            }
        }
    }

    /** "Throws IndexOutOfBoundsException if there is no such WORD". */
    private static void wordsOfSingle() {
        for (int word = 0; word <= 5; word++) {
            Factloom x = new Factloom();
            Check.due("single(" + word + ", true)", 0, x.single(word, true));
            Check.due("its set is 2^k", 1 << word, x.store(11));
            Check.due("single(" + word + ", false)", 0, x.single(word, false));
            Check.due("the empty set", 0, x.store(11));
        }
        for (int no : Stores.NO_WORDS) {
            Factloom x = new Factloom();
            Check.dueThrow("single(" + no + ", true)", INDEX, () -> x.single(no, true));
            Check.dueThrow("single(" + no + ", false)", INDEX, () -> x.single(no, false));
            Check.due("the empty set", 0, x.store(11));
        }
    }

    /** "Throws IndexOutOfBoundsException if there is no such WORD, of one of the three". */
    private static void wordsOfChain() {
        for (int word = 0; word <= 5; word++) {
            Factloom x = new Factloom();
            x.tell(word * 10 + 5, 1);
            x.tell(500 + word * 10, 1);
            x.commit();
            Check.due("chain(" + word + ", 0, 5)", 1, x.chain(word, 0, 5));
            Check.due("chain(" + word + ", 5, 0)", 1, x.chain(word, 5, 0));
        }
        for (int no : Stores.NO_WORDS) {
            Factloom x = new Factloom();
            for (int word : new int[] {0, 5, no}) {
                Check.dueThrow("chain by " + no, INDEX, () -> x.chain(no, word, word));
                Check.dueThrow("chain from " + no, INDEX, () -> x.chain(word, no, word));
                Check.dueThrow("chain to " + no, INDEX, () -> x.chain(word, word, no));
            }
        }
    }

    /** "A TRIPLE is three WORDS, told as the number with these digits": each of the 216, and no other number. */
    private static void allTriples() {
        int allowed = 0;
        for (int number = -12; number <= 1110; number++) {
            int n = number;
            if (!Stores.isTriple(n)) {
                dueNoTriple(n);
                continue;
            }
            allowed++;
            Factloom x = new Factloom();
            Check.due("tell(" + n + ", 1)", 1, x.tell(n, 1));
            Check.due("unsay(" + n + ")", 2, x.unsay(n));
            Check.due("tell(" + n + ", 9)", 3, x.tell(n, 9));
            x.commit();
            Check.due("told(" + n + ", 1)", true, x.told(n, 1));
            Check.due("told(" + n + ", 0)", false, x.told(n, 0));
            Check.due("its heads", n, x.ofFact(n, 6));
            Check.due("why(" + n + ")", "told", x.why(n));
            Check.due("lost(" + n + ")", 1, x.lost(n));
            int other = n == 0 ? 555 : 0;
            Check.due("not the other one", "no", x.why(other));
            Check.dueThrow("lost of the other one", STATE, () -> x.lost(other));
        }
        Check.due("triples", 216, allowed);
    }

    private static void dueNoTriple(int n) {
        Factloom x = new Factloom();
        Check.dueThrow("tell(" + n + ", 1)", ARGUMENT, () -> x.tell(n, 1));
        Check.dueThrow("unsay(" + n + ")", ARGUMENT, () -> x.unsay(n));
        Check.dueThrow("told(" + n + ", 0)", ARGUMENT, () -> x.told(n, 0));
        Check.dueThrow("ofFact(" + n + ", 6)", ARGUMENT, () -> x.ofFact(n, 6));
        Check.dueThrow("why(" + n + ")", ARGUMENT, () -> x.why(n));
        Check.dueThrow("lost(" + n + ")", ARGUMENT, () -> x.lost(n));
    }

    private static void noTriples() {
        for (int no : Stores.NO_TRIPLES) {
            dueNoTriple(no);
        }
    }

    /** "A PATTERN is three digits, each a WORD or a LETTER (0 to 999)": all of them, where one is asked for. */
    private static void allPatterns() {
        for (int number = 0; number <= 999; number++) {
            int n = number;
            Factloom x = new Factloom();
            Check.due("pattern(" + n + ")", 1, x.pattern(n));
            Check.due("not(" + n + ")", -1, x.not(n));
            Check.due("it was the not", n, x.not(-1));
            Check.due("rule(" + n + ", " + n + ", -1)", 0, x.rule(n, n, -1));
            Check.due("rule(" + n + ", " + n + ", 0)", 1, x.rule(n, n, 0));
            Check.due("rule(" + n + ", 0, " + n + ")", 2, x.rule(n, 0, n));
        }
    }

    /** NONE is a pattern for no one but the not and the second one of a rule. */
    private static void noPatterns() {
        for (int no : Stores.NO_PATTERNS) {
            Factloom x = new Factloom();
            Check.dueThrow("pattern(" + no + ")", ARGUMENT, () -> x.pattern(no));
            Check.dueThrow("not(" + no + ")", ARGUMENT, () -> x.not(no));
            Check.dueThrow("rule(" + no + ", 0, -1)", ARGUMENT, () -> x.rule(no, 0, -1));
            Check.dueThrow("rule(0, " + no + ", -1)", ARGUMENT, () -> x.rule(0, no, -1));
            Check.dueThrow("rule(0, 0, " + no + ")", ARGUMENT, () -> x.rule(0, 0, no));
        }
        Factloom x = new Factloom();
        Check.dueThrow("pattern(-1)", ARGUMENT, () -> x.pattern(-1));
        Check.dueThrow("rule(-1, 0, -1)", ARGUMENT, () -> x.rule(-1, 0, -1));
        Check.dueThrow("rule(0, -1, -1)", ARGUMENT, () -> x.rule(0, -1, -1));
        Check.due("not(-1)", -1, x.not(-1));
        Check.due("rule(0, 0, -1)", 0, x.rule(0, 0, -1));
    }

    /** "WORDS 0 to 5", "LETTERS 6 to 9": each digit, in each of the three places of a pattern. */
    private static void lettersAreSixToNine() {
        for (int digit = 0; digit <= 9; digit++) {
            for (int place = 1; place <= 100; place *= 10) {
                Factloom x = new Factloom();
                x.tell(0, 1);
                for (int word = 1; word <= 5; word++) {
                    x.tell(word * place, 1);
                }
                x.commit();
                x.pattern(digit * place);
                int due = digit <= 5 ? 1 : 6;
                Check.due("answers of " + digit * place, due, x.answers());
                Check.due("size of " + digit * place, due, x.size(0));
                Check.due("bound of " + digit * place, (long) due * due, x.bound());
            }
        }
    }

    private static int[] heads(Factloom x) {
        int[] heads = new int[6];
        for (int word = 0; word < 6; word++) {
            heads[word] = x.ofFact(word, 6);
            Check.due("first place", heads[word] * 100, x.ofFact(word * 100, 6) - x.ofFact(0, 6));
            Check.due("second place", heads[word] * 10, x.ofFact(word * 10, 6) - x.ofFact(0, 6));
        }
        return heads;
    }

    private static void dueHeads(String what, Factloom x, int... due) {
        Check.due(what, Arrays.toString(due), Arrays.toString(heads(x)));
        Check.due(what + ": store(7)", (int) Arrays.stream(due).distinct().count(), x.store(7));
    }

    /** "Each WORD stands for its HEAD (itself at first)." */
    private static void headsAtFirst() {
        dueHeads("at first", new Factloom(), 0, 1, 2, 3, 4, 5);
    }

    /** "have the smaller one of both HEADS then": of the HEADS, not of the WORDS. */
    private static void joinTakesTheSmallerHead() {
        Factloom x = new Factloom();
        Check.due("the larger one first", 4, x.join(5, 4));
        dueHeads("5 is 4", x, 0, 1, 2, 3, 4, 4);
        Check.due("the head of 5 is larger than 3", 3, x.join(3, 5));
        dueHeads("so are 4 and 5", x, 0, 1, 2, 3, 3, 3);
        Factloom y = new Factloom();
        y.join(0, 5);
        Check.due("5 stands for 0, which is smaller than 1", 0, y.join(5, 1));
        dueHeads("so 1 does", y, 0, 0, 2, 3, 4, 0);
    }

    /** JOIN of a WORD with itself, and of two that are one already: nothing is another. */
    private static void joinOfOne() {
        Factloom x = new Factloom();
        Check.due("join(3, 3)", 3, x.join(3, 3));
        dueHeads("none joined", x, 0, 1, 2, 3, 4, 5);
        x.join(3, 1);
        Check.due("join(3, 1) again", 1, x.join(3, 1));
        Check.due("join(3, 3) by its head", 1, x.join(3, 3));
        dueHeads("one joined", x, 0, 1, 2, 1, 4, 5);
    }

    /** "all WORDS with the HEAD of the one or of the other one". */
    private static void joinTakesAllOfBoth() {
        Factloom x = new Factloom();
        x.join(1, 3);
        x.join(2, 4);
        Check.due("of two pairs", 1, x.join(4, 3));
        dueHeads("all four, and no other one", x, 0, 1, 1, 1, 1, 5);
    }

    /** From six HEADS to one. */
    private static void joinTillOneHead() {
        Factloom x = new Factloom();
        for (int word = 5; word >= 1; word--) {
            Check.due("join(" + word + ", " + (word - 1) + ")", word - 1, x.join(word, word - 1));
            Check.due("heads", word, x.store(7));
        }
        dueHeads("one head", x, 0, 0, 0, 0, 0, 0);
        Check.due("555 is 000", 0, x.ofFact(555, 6));
        Check.due("one chain of none", 0, x.chain(3, 5, 1));
    }

    /** "Returns how many HEADS there were": 6 and 1 are the most and the fewest; "each is its own HEAD again". */
    private static void partOfNoneAndOfAll() {
        Factloom x = new Factloom();
        Check.due("part of none", 6, x.part());
        for (int word = 1; word <= 5; word++) {
            x.join(0, word);
        }
        Check.due("part of all", 1, x.part());
        dueHeads("each its own", x, 0, 1, 2, 3, 4, 5);
        Check.due("part again", 6, x.part());
    }

    private static void partLeavesTheRest() {
        Factloom x = Stores.rich();
        int singles = x.store(11);
        Check.due("heads before", 5, x.part());
        Check.due("single words stay", singles, x.store(11));
        Check.due("rules stay", 2, x.store(5));
        Check.due("the batch stays", 2, x.store(6));
        Check.due("patterns stay", 2, x.store(9));
        Check.due("rows stay", 6, x.store(1));
        Check.due("no moment more", 2, x.store(0));
    }

    /** "Wherever WORDS are read (in facts, PATTERNS, RULES, SHAPES), their HEADS of now count". */
    private static void headsOfNow() {
        Factloom x = new Factloom();
        x.tell(425, 3);
        x.tell(424, 3);
        x.commit();
        x.rule(535, 425, -1);
        x.pattern(426);
        x.single(3, true);
        Check.due("a fact", false, x.told(325, 1));
        Check.due("a rule", "no", x.why(525));
        Check.due("answers", 2, x.answers());
        Check.due("no shape is broken", 0, x.store(8));
        x.join(3, 4);
        Check.due("a fact by its head", true, x.told(325, 1));
        Check.due("a pattern by its head", 3999, x.answer(0));
        Check.due("a rule by its heads", "r0:325", x.why(545));
        x.join(2, 3);
        Check.due("a shape by its head", 1, x.store(8));
        Check.due("a rule by its heads", "r0:225", x.why(525));
        Check.due("the past by heads, too", true, x.told(235, 1));
        x.part();
        Check.due("a fact again", false, x.told(325, 1));
        Check.due("a rule again", "no", x.why(525));
        Check.due("a shape again", 0, x.store(8));
    }

    /** "LETTERS are bound to HEADS alone." */
    private static void lettersAreBoundToHeads() {
        Factloom x = Stores.full();
        x.rule(0, 678, -1);
        x.pattern(789);
        int[] due = {216, 125, 64, 27, 8, 1};
        for (int joined = 0; joined < 6; joined++) {
            x.join(0, joined);
            Check.due("answers of " + (6 - joined) + " heads", due[joined], x.answers());
            Check.due("size", due[joined], x.size(0));
            Check.due("ways: by each binding, and by rule 0", due[joined] + 1, x.ofFact(0, 3));
            Check.due("what holds", due[joined], x.store(3));
        }
        Check.due("the only binding", 9000, x.answer(0));
    }

    /** "a WORD itself can be SINGLE (not at first; a JOIN changes nothing of it)". */
    private static void singleWordItself() {
        Factloom x = new Factloom();
        Check.due("none at first", 0, x.store(11));
        x.tell(12, 1);
        x.tell(13, 1);
        x.commit();
        x.join(4, 1);
        Check.due("1 is the head of 4, which is single", 1, x.single(4, true));
        Check.due("4 itself is", 16, x.store(11));
        Check.due("1 itself is not, so this is no change", 1, x.single(1, false));
        x.part();
        Check.due("apart it is not broken", 0, x.store(8));
        Check.due("4 is single still", 16, x.store(11));
        x.join(1, 4);
        Check.due("joined it is again", 1, x.store(8));
        Check.due("not any more", 0, x.single(4, false));
    }

    private static void singleSets() {
        Factloom x = new Factloom();
        int set = 0;
        for (int word = 5; word >= 0; word--) {
            x.single(word, true);
            set += 1 << word;
            Check.due("one more", set, x.store(11));
            x.single(word, true);
            Check.due("twice is once", set, x.store(11));
        }
        Check.due("all six", 63, x.store(11));
        for (int word = 0; word <= 5; word++) {
            x.single(word, false);
            set -= 1 << word;
            Check.due("one fewer", set, x.store(11));
            x.single(word, false);
            Check.due("twice is once", set, x.store(11));
        }
    }

    /** "Returns for how many HEADS some SHAPE is BROKEN then": 0 to 6, each once, by however many words. */
    private static void singleCountsHeads() {
        Factloom x = new Factloom();
        Check.due("of nothing", 0, x.single(2, true));
        x.single(2, false);
        for (int first = 0; first <= 5; first++) {
            x.tell(first * 100 + 20, 1);
            x.tell(first * 100 + 21, 1);
        }
        x.commit();
        Check.due("six heads", 6, x.single(2, true));
        for (int third = 2; third <= 5; third++) {
            x.tell(20 + third, 1);
        }
        x.tell(33, 1);
        x.tell(34, 1);
        x.single(2, false);
        x.commit();
        Check.due("six thirds are one head broken", 6, x.single(2, true));
        Check.due("by a second word, too", 6, x.single(3, true));
        Check.due("by that alone", 1, x.single(2, false));
        x.join(3, 4);
        Check.due("thirds that are like then", 0, x.store(8));
        Check.due("by both words of one head", 0, x.single(4, true));
        x.single(2, true);
        x.join(0, 1);
        Check.due("0 of 2, 3, 5, the others not any more", 1, x.store(8));
    }
}
