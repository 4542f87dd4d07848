/**
 * "A method that throws an exception changes nothing. If several exceptions apply, the one that is named first is
 * thrown." Each row of each promise that says "Throws", in stores of several kinds.
 */
public final class RefusedTest {
    private static final Class<IllegalArgumentException> ARGUMENT = IllegalArgumentException.class;
    private static final Class<IllegalStateException> STATE = IllegalStateException.class;
    private static final Class<IndexOutOfBoundsException> INDEX = IndexOutOfBoundsException.class;

    private static String kind;
    private static Stores.Build build;

    public static void main(String[] args) {
        kind = "new";
        build = Factloom::new;
        inAnyStore();
        kind = "rich";
        build = Stores::rich;
        inAnyStore();
        kind = "full";
        build = Stores::full;
        inAnyStore();
        kind = "all full";
        build = RefusedTest::allFull;
        inAnyStore();
        whereAllIsFull();
        whereNothingIs();
        commits();
        firstNamedFirst();
        Check.end();
    }

    /** Nothing more goes in: 12 in the batch, 3 rules, 3 patterns, 60 rows, moment 50. */
    private static Factloom allFull() {
        Factloom x = Stores.rows(60);
        for (int moment = 5; moment < 50; moment++) {
            x.commit();
        }
        x.rule(678, 876, -1);
        x.rule(607, 706, -1);
        x.rule(600, 607, 708);
        x.pattern(607);
        x.pattern(708);
        x.pattern(906);
        x.not(767);
        x.join(2, 4);
        for (int k = 0; k < 12; k++) {
            x.tell(500 + k % 6, 3);
        }
        return x;
    }

    private static void refused(String what, Class<? extends RuntimeException> due, Twin.Use call) {
        Twin.dueRefused(kind + ": " + what, due, build, call);
    }

    private static void inAnyStore() {
        triples();
        words();
        patterns();
        numbers();
    }

    private static void triples() {
        for (int triple : new int[] {-1, 6, 60, 556, 600, 1000, Stores.MIN, Stores.MAX}) {
            refused("tell(" + triple + ", 1)", ARGUMENT, x -> x.tell(triple, 1));
            refused("unsay(" + triple + ")", ARGUMENT, x -> x.unsay(triple));
            refused("ofFact(" + triple + ", 0)", ARGUMENT, x -> x.ofFact(triple, 0));
            refused("told(" + triple + ", 0)", ARGUMENT, x -> x.told(triple, 0));
            refused("why(" + triple + ")", ARGUMENT, x -> x.why(triple));
            refused("lost(" + triple + ")", ARGUMENT, x -> x.lost(triple));
        }
        for (int trust : new int[] {0, 10, -1, Stores.MIN, Stores.MAX}) {
            refused("tell(0, " + trust + ")", ARGUMENT, x -> x.tell(0, trust));
        }
    }

    private static void words() {
        for (int word : new int[] {-1, 6, Stores.MIN, Stores.MAX}) {
            refused("join(" + word + ", 1)", INDEX, x -> x.join(word, 1));
            refused("join(1, " + word + ")", INDEX, x -> x.join(1, word));
            refused("single(" + word + ", true)", INDEX, x -> x.single(word, true));
            refused("single(" + word + ", false)", INDEX, x -> x.single(word, false));
            refused("chain(" + word + ", 1, 2)", INDEX, x -> x.chain(word, 1, 2));
            refused("chain(0, " + word + ", 2)", INDEX, x -> x.chain(0, word, 2));
            refused("chain(0, 1, " + word + ")", INDEX, x -> x.chain(0, 1, word));
        }
    }

    private static void patterns() {
        for (int pattern : new int[] {-2, 1000, Stores.MIN, Stores.MAX}) {
            refused("rule(" + pattern + ", 607, -1)", ARGUMENT, x -> x.rule(pattern, 607, -1));
            refused("rule(0, " + pattern + ", 607)", ARGUMENT, x -> x.rule(0, pattern, 607));
            refused("rule(0, 607, " + pattern + ")", ARGUMENT, x -> x.rule(0, 607, pattern));
            refused("pattern(" + pattern + ")", ARGUMENT, x -> x.pattern(pattern));
            refused("not(" + pattern + ")", ARGUMENT, x -> x.not(pattern));
        }
        refused("rule(-1, 607, -1)", ARGUMENT, x -> x.rule(-1, 607, -1));
        refused("rule(0, -1, 607)", ARGUMENT, x -> x.rule(0, -1, 607));
        refused("pattern(-1)", ARGUMENT, x -> x.pattern(-1));
        refused("rule(0, 678, 9)", ARGUMENT, x -> x.rule(0, 678, 9));
        refused("rule(6, 0, -1)", ARGUMENT, x -> x.rule(6, 0, -1));
        refused("rule(8, 607, 706)", ARGUMENT, x -> x.rule(8, 607, 706));
    }

    private static void numbers() {
        for (int number : new int[] {-1, Stores.MIN, Stores.MAX}) {
            refused("ofFact(0, " + number + ")", ARGUMENT, x -> x.ofFact(0, number));
            refused("store(" + number + ")", ARGUMENT, x -> x.store(number));
            refused("told(0, " + number + ")", INDEX, x -> x.told(0, number));
            refused("past(" + number + ")", INDEX, x -> x.past(number));
            refused("answer(" + number + ")", INDEX, x -> x.answer(number));
            refused("size(" + number + ")", INDEX, x -> x.size(number));
        }
        int moments = build.make().store(0) + 1;
        int answers = build.make().answers();
        int patterns = build.make().store(9);
        refused("ofFact(0, 7)", ARGUMENT, x -> x.ofFact(0, 7));
        refused("store(12)", ARGUMENT, x -> x.store(12));
        refused("told(0, " + moments + ")", INDEX, x -> x.told(0, moments));
        refused("past(" + moments + ")", INDEX, x -> x.past(moments));
        refused("answer(" + answers + ")", INDEX, x -> x.answer(answers));
        refused("size(" + patterns + ")", INDEX, x -> x.size(patterns));
    }

    private static void whereAllIsFull() {
        kind = "all full";
        build = RefusedTest::allFull;
        refused("tell(555, 9)", STATE, x -> x.tell(555, 9));
        refused("unsay(0)", STATE, x -> x.unsay(0));
        refused("rule(0, 0, -1)", STATE, x -> x.rule(0, 0, -1));
        refused("pattern(0)", STATE, x -> x.pattern(0));
        refused("commit()", STATE, x -> x.commit());
        refused("lost of what is only in the batch", STATE, x -> x.lost(500));
    }

    private static void whereNothingIs() {
        kind = "new";
        build = Factloom::new;
        refused("unrule()", STATE, x -> x.unrule());
        refused("lost(0)", STATE, x -> x.lost(0));
        refused("size(0)", INDEX, x -> x.size(0));
        refused("answer(1)", INDEX, x -> x.answer(1));
        refused("told(0, 1)", INDEX, x -> x.told(0, 1));
    }

    private static Factloom breaking() {
        Factloom x = Stores.rich();
        x.unsay(102);
        x.tell(112, 9);
        x.tell(304, 9);
        return x;
    }

    private static Factloom alreadyBroken() {
        Factloom x = Stores.rows(12);
        x.single(0, true);
        return x;
    }

    private static Factloom oneRowTooMany() {
        Factloom x = Stores.rows(59);
        x.tell(0, 7);
        x.unsay(1);
        x.tell(500, 1);
        x.tell(501, 1);
        return x;
    }

    private static Factloom lastMoment() {
        Factloom x = Stores.atMoment(50);
        x.tell(0, 7);
        x.unsay(123);
        return x;
    }

    /** What the batch would do first must not stay when it is refused for what it would do then. */
    private static void commits() {
        kind = "a shape would be broken";
        build = RefusedTest::breaking;
        refused("commit()", STATE, x -> x.commit());
        kind = "a shape is broken";
        build = RefusedTest::alreadyBroken;
        refused("commit()", STATE, x -> x.commit());
        kind = "61 rows";
        build = RefusedTest::oneRowTooMany;
        refused("commit()", STATE, x -> x.commit());
        kind = "moment 50";
        build = RefusedTest::lastMoment;
        refused("commit()", STATE, x -> x.commit());
        kind = "broken, 61 rows";
        build = () -> {
            Factloom x = oneRowTooMany();
            x.single(0, true);
            return x;
        };
        refused("commit()", STATE, x -> x.commit());
    }

    private static void firstNamedFirst() {
        kind = "several apply, all full";
        build = RefusedTest::allFull;
        refused("tell(6, 1), the batch full", ARGUMENT, x -> x.tell(6, 1));
        refused("tell(0, 0), the batch full", ARGUMENT, x -> x.tell(0, 0));
        refused("tell(0, 10), the batch full", ARGUMENT, x -> x.tell(0, 10));
        refused("tell(-1, -1), the batch full", ARGUMENT, x -> x.tell(-1, -1));
        refused("unsay(600), the batch full", ARGUMENT, x -> x.unsay(600));
        refused("rule(1000, 0, -1), 3 rules", ARGUMENT, x -> x.rule(1000, 0, -1));
        refused("rule(0, -1, 0), 3 rules", ARGUMENT, x -> x.rule(0, -1, 0));
        refused("rule(0, 0, -2), 3 rules", ARGUMENT, x -> x.rule(0, 0, -2));
        refused("rule(0, 678, 9), 3 rules", ARGUMENT, x -> x.rule(0, 678, 9));
        refused("rule(7, 6, -1), 3 rules", ARGUMENT, x -> x.rule(7, 6, -1));
        refused("rule(-1, 1000, -2), 3 rules", ARGUMENT, x -> x.rule(-1, 1000, -2));
        refused("pattern(1000), 3 patterns", ARGUMENT, x -> x.pattern(1000));
        refused("pattern(-1), 3 patterns", ARGUMENT, x -> x.pattern(-1));
        refused("told(6, -1)", ARGUMENT, x -> x.told(6, -1));
        refused("told(600, 51)", ARGUMENT, x -> x.told(600, 51));
        refused("lost(600), not told", ARGUMENT, x -> x.lost(600));
        refused("ofFact(6, 7)", ARGUMENT, x -> x.ofFact(6, 7));
        refused("join(-1, 6)", INDEX, x -> x.join(-1, 6));
        refused("chain(6, -1, 6)", INDEX, x -> x.chain(6, -1, 6));
        kind = "several apply, new";
        build = Factloom::new;
        refused("told(-1, 1)", ARGUMENT, x -> x.told(-1, 1));
        refused("lost(-1), not told", ARGUMENT, x -> x.lost(-1));
    }
}
