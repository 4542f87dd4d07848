/** The boundary cases of part 5 and of promises 14, 21, 22 and 23: of a fact, chain, why, store. */
public final class FactEdgesTest {
    private static final Class<IllegalArgumentException> ARGUMENT = IllegalArgumentException.class;

    public static void main(String[] args) {
        whatOfFact();
        factThatDoesNotHold();
        factThatIsMadeOnly();
        factThatIsToldOnly();
        factOnlyInTheBatch();
        momentOfSeveral();
        whatOfStore();
        storeOfNothing();
        storeCounts();
        storeGreatest();
        chainOfNone();
        chainOfOneToFive();
        chainWithout();
        chainTheFewest();
        chainByHeads();
        whyTold();
        whyNo();
        whyByTheSmallestRule();
        whyByTheSmallestBinding();
        whyWithItsDepth();
        whyThreeDigits();
        Check.end();
    }

    /** "what not 0 to 6". */
    private static void whatOfFact() {
        Factloom x = new Factloom();
        int[] due = {0, 0, -1, 0, 0, -1, 555};
        for (int what = 0; what <= 6; what++) {
            Check.due("ofFact(555, " + what + ")", due[what], x.ofFact(555, what));
        }
        for (int no : new int[] {-1, 7, 8, -6, Stores.MIN, Stores.MAX}) {
            Check.dueThrow("ofFact(555, " + no + ")", ARGUMENT, () -> x.ofFact(555, no));
            Check.dueThrow("ofFact(6, " + no + ")", ARGUMENT, () -> x.ofFact(6, no));
        }
    }

    private static void dueFact(String what, Factloom x, int triple, int... due) {
        for (int k = 0; k < due.length; k++) {
            Check.due(what + ": ofFact(" + triple + ", " + k + ")", due[k], x.ofFact(triple, k));
        }
    }

    /** "0 1 if it is TOLD now, otherwise 0, 1 1 if it HOLDS, otherwise 0, 2 DEPTH (NONE), .. (NONE)". */
    private static void factThatDoesNotHold() {
        Factloom x = new Factloom();
        dueFact("never told", x, 543, 0, 0, -1, 0, 0, -1, 543);
        x.tell(543, 9);
        x.commit();
        x.unsay(543);
        x.commit();
        dueFact("not any more", x, 543, 0, 0, -1, 0, 0, -1, 543);
        x.join(3, 1);
        dueFact("of another head", x, 543, 0, 0, -1, 0, 0, -1, 541);
    }

    private static void factThatIsMadeOnly() {
        Factloom x = new Factloom();
        x.commit();
        x.tell(100, 7);
        x.commit();
        x.rule(543, 600, -1);
        dueFact("made only", x, 543, 0, 1, 1, 1, 7, -1, 543);
        x.tell(543, 2);
        x.commit();
        dueFact("told, too", x, 543, 1, 1, 0, 1, 7, 3, 543);
        x.unsay(100);
        x.commit();
        dueFact("told only", x, 543, 1, 1, 0, 0, 2, 3, 543);
    }

    private static void factThatIsToldOnly() {
        for (int moment = 1; moment <= 50; moment++) {
            Factloom x = new Factloom();
            for (int k = 1; k < moment; k++) {
                x.commit();
            }
            x.tell(0, 1);
            x.commit();
            dueFact("told at " + moment, x, 0, 1, 1, 0, 0, 1, moment, 0);
        }
    }

    /** What is in the BATCH is not TOLD, what is to be unsaid is. */
    private static void factOnlyInTheBatch() {
        Factloom x = new Factloom();
        x.tell(5, 9);
        dueFact("to be told", x, 5, 0, 0, -1, 0, 0, -1, 5);
        Check.due("why", "no", x.why(5));
        x.commit();
        x.unsay(5);
        x.tell(5, 1);
        dueFact("to be unsaid", x, 5, 1, 1, 0, 0, 9, 1, 5);
        Check.due("why", "told", x.why(5));
    }

    /** "5 the MOMENT from which on a ROW that holds now is it, by HEADS (of several the smallest; NONE)". */
    private static void momentOfSeveral() {
        Factloom x = new Factloom();
        for (int first = 5; first >= 1; first--) {
            x.tell(first * 100, 1);
            x.commit();
        }
        Check.due("each has its own", 5, x.ofFact(100, 5));
        x.join(1, 2);
        Check.due("the smaller one of two", 4, x.ofFact(100, 5));
        x.join(1, 5);
        Check.due("the smallest one of three", 1, x.ofFact(200, 5));
        x.part();
        x.unsay(500);
        x.commit();
        x.join(1, 2);
        x.join(2, 5);
        Check.due("of rows that hold now", 4, x.ofFact(500, 5));
        x.unsay(100);
        x.commit();
        Check.due("of none", -1, x.ofFact(500, 5));
        x.part();
        Check.due("the others hold", 2, x.ofFact(400, 5));
    }

    /** "what not 0 to 11". */
    private static void whatOfStore() {
        for (int no : new int[] {-1, 12, 13, -11, Stores.MIN, Stores.MAX}) {
            Check.dueThrow("store(" + no + ")", ARGUMENT, () -> new Factloom().store(no));
            Check.dueThrow("rich: store(" + no + ")", ARGUMENT, () -> Stores.rich().store(no));
        }
    }

    private static void dueStore(String what, Factloom x, int... due) {
        for (int k = 0; k < due.length; k++) {
            Check.due(what + ": store(" + k + ")", due[k], x.store(k));
        }
    }

    /** "4 the greatest DEPTH (NONE, if none HOLDS)"; six HEADS, the empty set. */
    private static void storeOfNothing() {
        dueStore("new", new Factloom(), 0, 0, 0, 0, -1, 0, 0, 6, 0, 0, 0, 0);
        Factloom x = new Factloom();
        x.tell(0, 1);
        x.unsay(0);
        x.commit();
        dueStore("a row that never held", x, 1, 1, 0, 0, -1, 0, 0, 6, 0, 0, 0, 0);
    }

    private static void storeCounts() {
        dueStore("rich", Stores.rich(), 2, 6, 5, 8, 2, 2, 2, 5, 0, 2, 1, 18);
        Factloom x = Stores.rich();
        x.part();
        x.drop();
        x.clear();
        x.unrule();
        x.single(1, false);
        dueStore("and less", x, 2, 6, 5, 8, 2, 1, 0, 6, 0, 0, 0, 16);
        x.tell(310, 1);
        x.tell(340, 1);
        x.tell(141, 1);
        x.tell(140, 1);
        x.tell(341, 1);
        x.single(4, false);
        x.commit();
        x.single(4, true);
        Check.due("heads for which a shape is broken", 2, x.store(8));
    }

    /** The greatest of each: MOMENT 50, 60 ROWS, all TRIPLES, 3 RULES, 12 in the BATCH, 6 HEADS broken, 63. */
    private static void storeGreatest() {
        Factloom x = Stores.rows(60);
        for (int k = 5; k < 50; k++) {
            x.commit();
        }
        x.rule(0, 555, -1);
        x.rule(0, 554, -1);
        x.rule(553, 35, -1);
        for (int word = 0; word <= 5; word++) {
            x.single(word, true);
        }
        for (int k = 0; k < 12; k++) {
            x.tell(0, 1);
        }
        for (int k = 0; k < 3; k++) {
            x.pattern(0);
        }
        x.not(0);
        dueStore("greatest", x, 50, 60, 60, 61, 1, 3, 12, 6, 2, 3, 1, 63);
        Factloom full = Stores.full();
        Check.due("all triples hold", 216, full.store(3));
        full.single(0, true);
        Check.due("all heads are broken", 6, full.store(8));
    }

    /** "0, if both HEADS are the same": though nothing HOLDS, and by whatever WORD. */
    private static void chainOfNone() {
        Factloom x = new Factloom();
        for (int word = 0; word <= 5; word++) {
            for (int from = 0; from <= 5; from++) {
                Check.due("from and to " + from, 0, x.chain(word, from, from));
            }
        }
        x.join(4, 5);
        Check.due("both heads are the same", 0, x.chain(0, 4, 5));
        x.tell(303, 1);
        x.commit();
        Check.due("not 1 by itself", 0, x.chain(0, 3, 3));
    }

    /** From 1 to 5, which is the most of six WORDS. */
    private static void chainOfOneToFive() {
        int[] path = {3, 5, 0, 4, 1, 2};
        Factloom x = new Factloom();
        for (int k = 0; k < 5; k++) {
            x.tell(path[k] * 100 + 20 + path[k + 1], 1);
        }
        x.commit();
        for (int from = 0; from <= 5; from++) {
            for (int to = 0; to <= 5; to++) {
                int due = from <= to ? to - from : -1;
                Check.due("from " + from + " to " + to, due, x.chain(2, path[from], path[to]));
            }
        }
    }

    /** "NONE without one": another WORD, the other way round, a gap. */
    private static void chainWithout() {
        Factloom x = new Factloom();
        Check.due("nothing holds", -1, x.chain(0, 1, 2));
        x.tell(102, 1);
        Check.due("it is only in the batch", -1, x.chain(0, 1, 2));
        x.commit();
        Check.due("there is one", 1, x.chain(0, 1, 2));
        Check.due("by another word", -1, x.chain(1, 1, 2));
        Check.due("the other way round", -1, x.chain(0, 2, 1));
        x.tell(203, 1);
        x.tell(315, 1);
        x.commit();
        Check.due("by one word all along", -1, x.chain(0, 1, 5));
        Check.due("to the gap", 2, x.chain(0, 1, 3));
        x.unsay(102);
        x.commit();
        Check.due("what was told is not", -1, x.chain(0, 1, 2));
    }

    /** "the fewest TRIPLES that HOLD". */
    private static void chainTheFewest() {
        Factloom x = new Factloom();
        x.tell(1, 1);
        x.tell(102, 1);
        x.tell(203, 1);
        x.tell(304, 1);
        x.tell(405, 1);
        x.tell(4, 1);
        x.commit();
        Check.due("the short way", 2, x.chain(0, 0, 5));
        x.rule(608, 607, 708);
        Check.due("what is made counts as one", 1, x.chain(0, 0, 5));
        x.unrule();
        x.unsay(4);
        x.commit();
        Check.due("the long way", 5, x.chain(0, 0, 5));
        x.tell(500, 1);
        x.commit();
        Check.due("round", 1, x.chain(0, 5, 0));
        Check.due("round from 3 to 2", 5, x.chain(0, 3, 2));
    }

    /** "(by HEADS; ..)": of the WORD, of the one and of the other one, and of those between. */
    private static void chainByHeads() {
        Factloom x = new Factloom();
        x.tell(12, 1);
        x.tell(343, 1);
        x.commit();
        Check.due("two ends apart", -1, x.chain(1, 0, 3));
        x.join(2, 3);
        Check.due("the second one by another word", -1, x.chain(1, 0, 5));
        Check.due("2 is 3, so this is one", 1, x.chain(1, 0, 3));
        x.part();
        x.tell(335, 1);
        x.commit();
        x.join(3, 1);
        x.join(2, 3);
        Check.due("012 and 111, 115 by 1", 2, x.chain(3, 0, 5));
        Check.due("by 2, whose head is 1, too", 2, x.chain(2, 0, 5));
        x.join(0, 5);
        Check.due("both ends are one", 0, x.chain(1, 0, 5));
    }

    /** "told", "if it is TOLD"; though it is made, too, and by whatever WORD of its HEADS. */
    private static void whyTold() {
        Factloom x = new Factloom();
        x.tell(0, 1);
        x.tell(1, 1);
        x.commit();
        x.rule(1, 0, -1);
        Check.due("made, too", "told", x.why(1));
        Check.due("not of its heads", "no", x.why(2));
        x.join(2, 1);
        Check.due("by heads", "told", x.why(2));
    }

    /** "otherwise "no"": of what does not HOLD. */
    private static void whyNo() {
        Factloom x = new Factloom();
        Check.due("nothing holds", "no", x.why(0));
        x.rule(0, 678, -1);
        Check.due("a rule without its triples", "no", x.why(0));
        x.tell(555, 1);
        Check.due("in the batch", "no", x.why(555));
        x.commit();
        Check.due("it holds", "r0:555", x.why(0));
        x.unsay(555);
        x.commit();
        Check.due("not any more", "no", x.why(555));
        Check.due("nor what was made of it", "no", x.why(0));
    }

    /** "(the smallest RULE; ..": 0 to 2. */
    private static void whyByTheSmallestRule() {
        Factloom x = new Factloom();
        x.tell(200, 1);
        x.tell(100, 1);
        x.commit();
        x.rule(0, 500, -1);
        x.rule(0, 300, -1);
        x.rule(0, 200, -1);
        Check.due("the rule 2", "r2:200", x.why(0));
        x.unrule();
        x.unrule();
        x.rule(0, 200, -1);
        x.rule(0, 100, -1);
        Check.due("the rule 1, though 2 is of a smaller triple", "r1:200", x.why(0));
        x.unrule();
        x.unrule();
        x.unrule();
        x.rule(0, 600, -1);
        x.rule(0, 100, -1);
        Check.due("the rule 0, by its smallest binding", "r0:100", x.why(0));
    }

    /** "then that BINDING whose LETTERS 6 to 9 are the smallest number". */
    private static void whyByTheSmallestBinding() {
        Factloom x = new Factloom();
        x.tell(105, 1);
        x.tell(204, 1);
        x.tell(302, 1);
        x.commit();
        x.rule(555, 609, -1);
        Check.due("6 before 9", "r0:105", x.why(555));
        x.unrule();
        x.rule(555, 906, -1);
        Check.due("6 before 9, the other way round", "r0:302", x.why(555));
        x.unrule();
        x.rule(555, 807, -1);
        Check.due("7 before 8", "r0:302", x.why(555));
        x.unrule();
        x.rule(555, 809, 907);
        Check.due("7 before 8 before 9", "r0:302,204", x.why(555));
        x.unrule();
        x.rule(555, 608, 807);
        Check.due("6 before 7 before 8", "r0:302,204", x.why(555));
        x.tell(401, 1);
        x.commit();
        Check.due("6 is 2 now", "r0:204,401", x.why(555));
        x.tell(0, 1);
        x.commit();
        Check.due("all are 0", "r0:000,000", x.why(555));
    }

    /** "by which RULE and BINDING it is made with its DEPTH": a smaller one that is deeper is not it. */
    private static void whyWithItsDepth() {
        Factloom x = new Factloom();
        x.tell(300, 1);
        x.commit();
        x.rule(555, 600, -1);
        x.rule(200, 300, -1);
        Check.due("the binding to 2 is deeper", "r0:300", x.why(555));
        Check.due("ways", 2, x.ofFact(555, 3));
        x.unrule();
        x.unrule();
        x.rule(555, 444, -1);
        x.rule(444, 300, -1);
        Check.due("the only one", "r0:444", x.why(555));
        x.rule(555, 300, -1);
        Check.due("the rule 0 is deeper than 2", "r2:300", x.why(555));
        Check.due("depth", 1, x.ofFact(555, 2));
    }

    /** "and the TRIPLES (of HEADS) of which it is made by that, three digits each, with "," between". */
    private static void whyThreeDigits() {
        Factloom x = new Factloom();
        x.tell(0, 1);
        x.tell(5, 1);
        x.tell(50, 1);
        x.commit();
        x.rule(555, 0, -1);
        x.rule(444, 5, 50);
        x.rule(333, 50, 0);
        Check.due("000", "r0:000", x.why(555));
        Check.due("005 and 050", "r1:005,050", x.why(444));
        Check.due("as they stand in the rule", "r2:050,000", x.why(333));
        x.join(5, 4);
        x.join(4, 3);
        Check.due("of heads", "r0:000", x.why(555));
        Check.due("of heads", "r0:000", x.why(345));
        x.unrule();
        x.unrule();
        x.unrule();
        x.rule(555, 4, -1);
        Check.due("of heads, not of the words of the rule", "r0:003", x.why(444));
    }
}
