/** Promises 9 and 10: rule, unrule. */
public final class RulesTest {
    private static final Class<IllegalArgumentException> ARGUMENT = IllegalArgumentException.class;
    private static final Class<IllegalStateException> STATE = IllegalStateException.class;

    public static void main(String[] args) {
        rule();
        ruleByHeads();
        ruleToRest();
        ruleWithoutLetters();
        ruleWrong();
        unrule();
        Check.end();
    }

    private static void rule() {
        Factloom x = new Factloom();
        x.tell(102, 1);
        x.tell(203, 1);
        x.commit();
        Check.due("first", 0, x.rule(918, 907, 708));
        Check.due("made", 1, x.ofFact(113, 1));
        Check.due("only that", 3, x.store(3));
        Check.due("second", 1, x.rule(889, 918, -1));
        Check.due("made of what is made", 1, x.ofFact(331, 1));
        Check.due("third", 2, x.rule(5, 889, -1));
        Check.due("of one letterless", 1, x.ofFact(5, 1));
        Check.due("store(5)", 3, x.store(5));
        Check.dueThrow("a fourth", STATE, () -> x.rule(5, 889, -1));
        Check.dueThrow("argument before state", ARGUMENT, () -> x.rule(6, 889, -1));
        Check.due("store(5)", 3, x.store(5));
    }

    private static void ruleByHeads() {
        Factloom x = new Factloom();
        x.tell(134, 1);
        x.commit();
        x.rule(653, 637, -1);
        Check.due("made", 1, x.ofFact(153, 1));
        x.join(5, 2);
        Check.due("words of rules stand for their heads", 123, x.ofFact(153, 6));
        Check.due("made", 1, x.ofFact(123, 1));
        Check.due("two hold", 2, x.store(3));
        x.join(0, 1);
        Check.due("letters are bound to heads", "r0:034", x.why(23));
        Check.due("two hold", 2, x.store(3));
        x.part();
        Check.due("not any more", 0, x.ofFact(23, 1));
        Check.due("again", 1, x.ofFact(153, 1));
    }

    private static void ruleToRest() {
        Factloom x = new Factloom();
        for (int word = 0; word < 5; word++) {
            x.tell(word * 100 + word + 1, 1 + word);
        }
        x.commit();
        x.rule(608, 607, 708);
        Check.due("all along the chain", 15, x.store(3));
        Check.due("the deepest", 3, x.store(4));
        Check.due("from end to end", 3, x.ofFact(5, 2));
        Check.due("by the least trust", 1, x.ofFact(5, 4));
        x.unsay(203);
        x.commit();
        Check.due("less without a link", 6, x.store(3));
        Check.due("not any more", 0, x.ofFact(5, 1));
    }

    private static void ruleWithoutLetters() {
        Factloom x = new Factloom();
        x.rule(555, 555, 555);
        x.rule(444, 555, 111);
        Check.due("nothing of nothing", 0, x.store(3));
        x.tell(111, 3);
        x.commit();
        Check.due("both are needed", 1, x.store(3));
        x.tell(555, 3);
        x.commit();
        Check.due("both are there", 3, x.store(3));
        Check.due("one way", 1, x.ofFact(444, 3));
        Check.due("of itself", 1, x.ofFact(555, 3));
    }

    private static void ruleWrong() {
        Factloom x = new Factloom();
        int[] noPatterns = {-2, 1000, Integer.MAX_VALUE, Integer.MIN_VALUE};
        for (int wrong : noPatterns) {
            Check.dueThrow("made " + wrong, ARGUMENT, () -> x.rule(wrong, 678, -1));
            Check.dueThrow("one " + wrong, ARGUMENT, () -> x.rule(678, wrong, 678));
            Check.dueThrow("other " + wrong, ARGUMENT, () -> x.rule(678, 678, wrong));
        }
        Check.dueThrow("made NONE", ARGUMENT, () -> x.rule(-1, 678, -1));
        Check.dueThrow("one NONE", ARGUMENT, () -> x.rule(0, -1, 678));
        Check.dueThrow("four letters", ARGUMENT, () -> x.rule(0, 678, 9));
        Check.dueThrow("four letters", ARGUMENT, () -> x.rule(678, 667, 889));
        Check.dueThrow("a letter from nowhere", ARGUMENT, () -> x.rule(8, 607, -1));
        Check.dueThrow("a letter from nowhere", ARGUMENT, () -> x.rule(800, 607, 770));
        Check.dueThrow("a letter from nowhere", ARGUMENT, () -> x.rule(90, 0, -1));
        Check.due("no rule came", 0, x.store(5));
        Check.due("letters of the other one count", 0, x.rule(689, 600, 89));
        Check.due("patterns to 999", 1, x.rule(999, 999, 999));
    }

    private static void unrule() {
        Factloom x = new Factloom();
        Check.dueThrow("none", STATE, x::unrule);
        x.tell(111, 1);
        x.commit();
        x.rule(222, 111, -1);
        x.rule(333, 222, -1);
        Check.due("three hold", 3, x.store(3));
        Check.due("the last one goes", 1, x.unrule());
        Check.due("not made", 0, x.ofFact(333, 1));
        Check.due("still made", 1, x.ofFact(222, 1));
        Check.due("the number is free again", 1, x.rule(444, 222, -1));
        Check.due("made", "r1:222", x.why(444));
        Check.due("two", 1, x.unrule());
        Check.due("one", 0, x.unrule());
        Check.due("only what is told", 1, x.store(3));
        Check.dueThrow("none again", STATE, x::unrule);
    }
}
