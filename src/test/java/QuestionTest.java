/** Promises 11 to 13 and 17 to 20: pattern, not, clear, answers, answer, size, bound. */
public final class QuestionTest {
    private static final Class<IllegalArgumentException> ARGUMENT = IllegalArgumentException.class;
    private static final Class<IllegalStateException> STATE = IllegalStateException.class;
    private static final Class<IndexOutOfBoundsException> INDEX = IndexOutOfBoundsException.class;

    public static void main(String[] args) {
        patternCounts();
        patternWrong();
        not();
        clear();
        answersWithoutPatterns();
        answersRise();
        answersByHeads();
        answersFollowTheStore();
        nots();
        sizes();
        bounds();
        Check.end();
    }

    /** 102, 203, 304, 114 and 411. */
    private static Factloom small() {
        Factloom x = new Factloom();
        x.tell(102, 1);
        x.tell(203, 2);
        x.tell(304, 3);
        x.tell(114, 4);
        x.tell(411, 5);
        x.commit();
        return x;
    }

    private static void dueAnswers(String what, Factloom x, int... due) {
        Check.due(what + ": answers()", due.length, x.answers());
        for (int nth = 0; nth < due.length && nth < x.answers(); nth++) {
            Check.due(what + ": answer(" + nth + ")", due[nth], x.answer(nth));
        }
        Check.dueThrow(what + ": answer behind the last", INDEX, () -> x.answer(due.length));
    }

    private static void patternCounts() {
        Factloom x = new Factloom();
        Check.due("first", 1, x.pattern(0));
        Check.due("second", 2, x.pattern(999));
        Check.due("third", 3, x.pattern(999));
        Check.due("store(9)", 3, x.store(9));
        Check.dueThrow("a fourth", STATE, () -> x.pattern(0));
        Check.dueThrow("argument before state", ARGUMENT, () -> x.pattern(1000));
    }

    private static void patternWrong() {
        Factloom x = new Factloom();
        int[] noPatterns = {-1, -2, 1000, Integer.MAX_VALUE, Integer.MIN_VALUE};
        for (int wrong : noPatterns) {
            Check.dueThrow("pattern(" + wrong + ")", ARGUMENT, () -> x.pattern(wrong));
        }
        Check.due("none came", 0, x.store(9));
    }

    private static void not() {
        Factloom x = new Factloom();
        Check.due("none before", -1, x.not(-1));
        Check.due("none before", -1, x.not(0));
        Check.due("it has one", 1, x.store(10));
        Check.due("0 before", 0, x.not(999));
        int[] noPatterns = {-2, 1000, Integer.MAX_VALUE, Integer.MIN_VALUE};
        for (int wrong : noPatterns) {
            Check.dueThrow("not(" + wrong + ")", ARGUMENT, () -> x.not(wrong));
        }
        Check.due("999 stays", 999, x.not(-1));
        Check.due("it has none", 0, x.store(10));
    }

    private static void clear() {
        Factloom x = small();
        Check.due("clear of none", 0, x.clear());
        x.not(678);
        Check.due("the not is no pattern", 0, x.clear());
        Check.due("but goes, too", 0, x.store(10));
        Check.due("none then", -1, x.not(678));
        x.pattern(607);
        x.pattern(708);
        Check.due("answers before", 2, x.answers());
        Check.due("clear of two", 2, x.clear());
        Check.due("store(9)", 0, x.store(9));
        dueAnswers("cleared", x, 9999);
        Check.due("the first again", 1, x.pattern(818));
        dueAnswers("letters of before are gone", x);
    }

    private static void answersWithoutPatterns() {
        Factloom x = small();
        dueAnswers("empty", x, 9999);
        x.not(678);
        dueAnswers("a not that holds", x);
        x.not(666);
        dueAnswers("a not that does not hold", x, 9999);
        x.not(102);
        dueAnswers("a not that is told", x);
        x.not(103);
        dueAnswers("a not that is not told", x, 9999);
        x.not(-1);
        x.pattern(102);
        dueAnswers("a pattern without letters", x, 9999);
        x.pattern(103);
        dueAnswers("one that does not hold", x);
    }

    private static void answersRise() {
        Factloom x = small();
        x.pattern(907);
        dueAnswers("letters 7 and 9", x, 9291, 9392, 9493);
        x.clear();
        x.pattern(607);
        x.pattern(708);
        dueAnswers("two steps", x, 1239, 2349);
        x.clear();
        x.pattern(668);
        dueAnswers("one letter twice", x, 1949);
        x.clear();
        x.pattern(677);
        dueAnswers("one letter twice", x, 4199);
        x.clear();
        x.pattern(678);
        dueAnswers("all", x, 1029, 1149, 2039, 3049, 4119);
        x.clear();
        x.pattern(876);
        dueAnswers("all, turned", x, 1149, 2019, 3029, 4039, 4119);
        x.pattern(9);
        dueAnswers("none", x);
        x.clear();
        x.pattern(102);
        x.pattern(203);
        x.pattern(604);
        dueAnswers("three", x, 3999);
        Check.dueThrow("answer(-1)", INDEX, () -> x.answer(-1));
        Check.dueThrow("answer(MIN)", INDEX, () -> x.answer(Integer.MIN_VALUE));
        Check.dueThrow("answer(MAX)", INDEX, () -> x.answer(Integer.MAX_VALUE));
    }

    private static void answersByHeads() {
        Factloom x = small();
        x.pattern(607);
        x.join(2, 1);
        dueAnswers("letters are bound to heads", x, 1199, 1399, 3499);
        x.clear();
        x.pattern(206);
        dueAnswers("words stand for heads", x, 1999, 3999);
        x.join(0, 1);
        dueAnswers("and for smaller ones", x, 999, 3999, 4999);
        x.part();
        dueAnswers("and apart again", x, 3999);
    }

    private static void answersFollowTheStore() {
        Factloom x = small();
        x.pattern(106);
        Check.due("answer(0) before answers()", 2999, x.answer(0));
        dueAnswers("at first", x, 2999);
        x.tell(105, 1);
        dueAnswers("not by a batch", x, 2999);
        x.commit();
        dueAnswers("but by a commit", x, 2999, 5999);
        x.rule(103, 102, -1);
        dueAnswers("by a rule", x, 2999, 3999, 5999);
        x.not(607);
        dueAnswers("by a not", x, 5999);
        x.unrule();
        dueAnswers("by an unrule", x, 5999);
        x.not(-1);
        dueAnswers("without it", x, 2999, 5999);
        x.unsay(102);
        x.commit();
        dueAnswers("by an unsay", x, 5999);
    }

    private static void nots() {
        Factloom x = small();
        x.pattern(607);
        x.not(708);
        dueAnswers("other letters: none may do", x, 3499);
        x.not(706);
        dueAnswers("no other letters", x, 1299, 2399, 3499);
        x.not(102);
        dueAnswers("no letters at all", x);
        x.not(789);
        dueAnswers("two other letters", x);
        x.not(766);
        dueAnswers("both bound", x, 1299, 2399, 3499);
        x.not(788);
        dueAnswers("one letter twice", x, 1299, 2399);
        x.not(899);
        dueAnswers("none of its letters bound", x);
        x.not(888);
        dueAnswers("none of its letters bound, nor made to hold", x, 1299, 2399, 3499);
    }

    private static void sizes() {
        Factloom x = small();
        Check.dueThrow("size(0) of none", INDEX, () -> x.size(0));
        x.pattern(607);
        x.pattern(678);
        x.pattern(668);
        Check.due("size(0)", 3, x.size(0));
        Check.due("size(1)", 5, x.size(1));
        Check.due("size(2)", 1, x.size(2));
        Check.dueThrow("size(3)", INDEX, () -> x.size(3));
        Check.dueThrow("size(-1)", INDEX, () -> x.size(-1));
        Check.dueThrow("size(MAX)", INDEX, () -> x.size(Integer.MAX_VALUE));
        x.not(678);
        Check.due("the not changes no size", 5, x.size(1));
        x.clear();
        x.pattern(102);
        x.pattern(103);
        x.pattern(999);
        Check.due("one binding of no letters", 1, x.size(0));
        Check.due("none", 0, x.size(1));
        Check.due("none", 0, x.size(2));
        x.clear();
        x.pattern(706);
        x.join(1, 2);
        Check.due("by heads", 3, x.size(0));
        x.join(1, 3);
        Check.due("by heads", 2, x.size(0));
        x.rule(607, 706, -1);
        Check.due("of what holds", 3, x.size(0));
    }

    private static void bounds() {
        Factloom x = small();
        Check.due("no pattern", 1L, x.bound());
        x.not(102);
        Check.due("the not does not count", 1L, x.bound());
        x.clear();
        x.pattern(102);
        Check.due("no letter", 1L, x.bound());
        x.pattern(607);
        Check.due("3 squared", 9L, x.bound());
        x.pattern(708);
        Check.due("each to 2, as 6 and 8 are in one each", 81L, x.bound());
        x.clear();
        x.pattern(607);
        x.pattern(708);
        x.pattern(806);
        Check.due("a triangle: each to 1", 27L, x.bound());
        x.clear();
        x.pattern(678);
        x.pattern(607);
        x.pattern(668);
        Check.due("5 squared, or 3 squared times 1 squared", 9L, x.bound());
        x.clear();
        x.pattern(678);
        x.pattern(103);
        Check.due("0 with a size of 0", 0L, x.bound());
        x.clear();
        x.pattern(103);
        Check.due("0 without a letter, too", 0L, x.bound());
        x.clear();
        x.rule(678, 102, 678);
        x.pattern(678);
        x.pattern(679);
        x.pattern(689);
        Check.due("three with four letters", 125L, x.bound());
        Factloom full = new Factloom();
        full.tell(0, 1);
        full.tell(101, 1);
        full.tell(202, 1);
        full.tell(303, 1);
        full.tell(404, 1);
        full.tell(505, 1);
        full.commit();
        full.rule(607, 606, 707);
        full.rule(678, 607, 708);
        full.rule(768, 678, -1);
        full.pattern(678);
        Check.due("what holds", 216, full.store(3));
        Check.due("all of it", 216, full.size(0));
        Check.due("216 squared", 46656L, full.bound());
        full.pattern(789);
        Check.due("two of them: each to 2", 46656L * 46656L, full.bound());
        Check.due("all bindings", 1296, full.answers());
        Check.due("the last one", 5555, full.answer(1295));
        full.pattern(896);
        Check.due("three of them: the power 1 each", 216L * 216L * 216L, full.bound());
    }
}
