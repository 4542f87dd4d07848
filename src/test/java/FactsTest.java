/** Promises 14 to 16, 22 and 23: ofFact, told, past, why, store. */
public final class FactsTest {
    private static final Class<IllegalArgumentException> ARGUMENT = IllegalArgumentException.class;
    private static final Class<IndexOutOfBoundsException> INDEX = IndexOutOfBoundsException.class;

    public static void main(String[] args) {
        ofFact();
        ofFactWays();
        ofFactMerit();
        ofFactEarliest();
        ofFactWrong();
        told();
        past();
        why();
        whyOfSeveral();
        store();
        Check.end();
    }

    private static void dueFact(Factloom x, int triple, int... due) {
        for (int what = 0; what < due.length; what++) {
            Check.due("ofFact(" + triple + ", " + what + ")", due[what], x.ofFact(triple, what));
        }
    }

    private static void ofFact() {
        Factloom x = new Factloom();
        x.rule(607, 706, -1);
        x.commit();
        x.tell(102, 4);
        x.commit();
        dueFact(x, 102, 1, 1, 0, 1, 4, 2, 102);
        dueFact(x, 201, 0, 1, 1, 1, 4, -1, 201);
        dueFact(x, 103, 0, 0, -1, 0, 0, -1, 103);
        x.join(0, 2);
        dueFact(x, 102, 1, 1, 0, 1, 4, 2, 100);
        dueFact(x, 1, 0, 1, 1, 1, 4, -1, 1);
        dueFact(x, 221, 0, 1, 1, 1, 4, -1, 1);
        dueFact(x, 113, 0, 0, -1, 0, 0, -1, 113);
    }

    private static void ofFactWays() {
        Factloom x = new Factloom();
        x.tell(101, 1);
        x.tell(102, 1);
        x.tell(103, 1);
        x.commit();
        x.rule(505, 106, 107);
        Check.due("ways by bindings of all letters of the rule", 9, x.ofFact(505, 3));
        x.rule(505, 106, -1);
        Check.due("and by rules", 12, x.ofFact(505, 3));
        x.rule(101, 505, -1);
        Check.due("of what is told, too", 1, x.ofFact(101, 3));
        Check.due("which stays at depth 0", 0, x.ofFact(101, 2));
        x.join(2, 3);
        Check.due("bindings to heads", 6, x.ofFact(505, 3));
        x.unsay(101);
        x.unsay(102);
        x.commit();
        Check.due("none of nothing", 0, x.ofFact(505, 3));
    }

    private static void ofFactMerit() {
        Factloom x = new Factloom();
        x.tell(12, 3);
        x.tell(13, 7);
        x.tell(14, 5);
        x.commit();
        x.rule(22, 12, 13);
        Check.due("the least one of a way", 3, x.ofFact(22, 4));
        x.rule(22, 14, -1);
        Check.due("the greatest one of all ways", 5, x.ofFact(22, 4));
        x.rule(12, 22, -1);
        Check.due("of what is told by a better way", 5, x.ofFact(12, 4));
        x.tell(12, 9);
        x.commit();
        Check.due("by a greater trust", 7, x.ofFact(22, 4));
        Check.due("of its own", 9, x.ofFact(12, 4));
        x.join(2, 4);
        Check.due("by heads", 9, x.ofFact(14, 4));
        x.unsay(12);
        x.commit();
        Check.due("of rows that hold", 0, x.ofFact(12, 4));
        Factloom y = new Factloom();
        y.tell(1, 9);
        y.tell(112, 2);
        y.commit();
        y.rule(2, 112, -1);
        y.rule(3, 2, -1);
        y.rule(2, 1, -1);
        Check.due("risen after its use", 9, y.ofFact(3, 4));
    }

    private static void ofFactEarliest() {
        Factloom x = new Factloom();
        x.tell(12, 1);
        x.commit();
        x.tell(13, 1);
        x.commit();
        x.join(2, 3);
        Check.due("of several the smallest", 1, x.ofFact(13, 5));
        x.part();
        x.unsay(12);
        x.commit();
        x.join(2, 3);
        Check.due("of those that hold now", 2, x.ofFact(12, 5));
        x.tell(12, 1);
        x.commit();
        Check.due("not the later one", 2, x.ofFact(12, 5));
        x.unsay(13);
        x.commit();
        Check.due("none", -1, x.ofFact(12, 5));
    }

    private static void ofFactWrong() {
        Factloom x = new Factloom();
        int[] noTriples = {-1, 6, 60, 556, 565, 600, 999, Integer.MAX_VALUE, Integer.MIN_VALUE};
        for (int triple : noTriples) {
            for (int what = -1; what <= 7; what++) {
                int k = what;
                Check.dueThrow("ofFact(" + triple + ", " + k + ")", ARGUMENT, () -> x.ofFact(triple, k));
            }
            Check.dueThrow("told(" + triple + ", 0)", ARGUMENT, () -> x.told(triple, 0));
            Check.dueThrow("why(" + triple + ")", ARGUMENT, () -> x.why(triple));
        }
        int[] noWhats = {-1, 7, Integer.MAX_VALUE, Integer.MIN_VALUE};
        for (int what : noWhats) {
            Check.dueThrow("ofFact(0, " + what + ")", ARGUMENT, () -> x.ofFact(0, what));
        }
    }

    private static void told() {
        Factloom x = new Factloom();
        Check.due("nothing at 0", false, x.told(0, 0));
        x.tell(12, 1);
        x.commit();
        x.commit();
        x.unsay(12);
        x.commit();
        boolean[] due = {false, true, true, false};
        for (int moment = 0; moment < due.length; moment++) {
            Check.due("told(12, " + moment + ")", due[moment], x.told(12, moment));
        }
        Check.due("not by heads yet", false, x.told(13, 2));
        x.join(3, 2);
        Check.due("by heads of now", true, x.told(13, 2));
        x.rule(14, 12, -1);
        Check.due("not what is made", false, x.told(14, 2));
        int[] noMoments = {-1, 4, Integer.MAX_VALUE, Integer.MIN_VALUE};
        for (int moment : noMoments) {
            Check.dueThrow("told(12, " + moment + ")", INDEX, () -> x.told(12, moment));
            Check.dueThrow("past(" + moment + ")", INDEX, () -> x.past(moment));
            Check.dueThrow("triple before moment", ARGUMENT, () -> x.told(600, moment));
        }
    }

    private static void past() {
        Factloom x = new Factloom();
        x.tell(12, 1);
        x.tell(13, 1);
        x.commit();
        x.unsay(12);
        x.tell(113, 1);
        x.tell(114, 1);
        x.commit();
        x.tell(500, 1);
        x.unsay(500);
        x.unsay(13);
        x.unsay(113);
        x.unsay(114);
        x.commit();
        int[] due = {0, 2, 3, 0};
        for (int moment = 0; moment < due.length; moment++) {
            Check.due("past(" + moment + ")", due[moment], x.past(moment));
        }
        x.join(0, 1);
        Check.due("of heads of now", 2, x.past(2));
        x.join(2, 3);
        Check.due("of heads of now", 1, x.past(1));
        x.rule(666, 677, -1);
        Check.due("not what is made", 2, x.past(2));
    }

    private static void why() {
        Factloom x = new Factloom();
        x.tell(1, 1);
        x.tell(102, 1);
        x.commit();
        Check.due("no", "no", x.why(2));
        x.rule(608, 607, 708);
        Check.due("two", "r0:001,102", x.why(2));
        x.rule(688, 608, -1);
        Check.due("one", "r1:002", x.why(22));
        Check.due("told, though made, too", "told", x.why(1));
        x.join(1, 5);
        Check.due("of heads", "r0:001,102", x.why(2));
        Check.due("of heads", "told", x.why(502));
        x.join(2, 4);
        x.join(0, 3);
        Check.due("asked by any words", "r1:002", x.why(344));
        x.rule(303, 304, 304);
        Check.due("the same twice", "r2:002,002", x.why(0));
    }

    private static void whyOfSeveral() {
        Factloom x = new Factloom();
        x.tell(100, 1);
        x.tell(200, 1);
        x.tell(300, 1);
        x.commit();
        x.rule(544, 533, -1);
        x.rule(533, 600, -1);
        x.rule(544, 800, 700);
        Check.due("the smallest binding", "r1:100", x.why(533));
        Check.due("the depth goes before the rule", "r2:100,100", x.why(544));
        Check.due("ways of any depth", 1 + 9, x.ofFact(544, 3));
        Check.due("depth", 1, x.ofFact(544, 2));
        Factloom y = new Factloom();
        y.tell(102, 1);
        y.tell(201, 1);
        y.tell(301, 1);
        y.tell(103, 1);
        y.commit();
        y.rule(555, 807, 708);
        Check.due("the letter 7 before the letter 8", "r0:201,102", y.why(555));
        y.rule(444, 607, 706);
        Check.due("the letter 6 before the letter 7", "r1:102,201", y.why(444));
        y.unsay(102);
        y.commit();
        Check.due("the next one", "r0:301,103", y.why(555));
        Check.due("the next one", "r1:103,301", y.why(444));
    }

    private static void store() {
        Factloom x = new Factloom();
        x.tell(1, 1);
        x.tell(101, 1);
        x.commit();
        x.rule(606, 607, -1);
        x.rule(607, 606, 708);
        x.tell(2, 1);
        x.unsay(2);
        x.commit();
        x.single(0, true);
        x.single(5, true);
        x.join(4, 5);
        x.pattern(600);
        x.not(3);
        x.tell(0, 2);
        int[] due = {2, 3, 2, 4, 1, 2, 1, 5, 0, 1, 1, 33};
        for (int what = 0; what < due.length; what++) {
            Check.due("store(" + what + ")", due[what], x.store(what));
        }
        x.join(0, 1);
        Check.due("told triples of heads", 1, x.store(2));
        Check.due("triples of heads that hold", 1, x.store(3));
        Check.due("the greatest depth", 0, x.store(4));
        int[] noWhats = {-1, 12, Integer.MAX_VALUE, Integer.MIN_VALUE};
        for (int what : noWhats) {
            Check.dueThrow("store(" + what + ")", ARGUMENT, () -> x.store(what));
        }
    }
}
