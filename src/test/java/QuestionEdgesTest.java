/** The boundary cases of part 4 and of promises 11 to 13 and 17 to 20: the question, answers, sizes, the bound. */
public final class QuestionEdgesTest {
    private static final Class<IllegalStateException> STATE = IllegalStateException.class;
    private static final Class<IndexOutOfBoundsException> INDEX = IndexOutOfBoundsException.class;

    public static void main(String[] args) {
        noneAtFirst();
        threePatterns();
        oneNot();
        clearOfNoneAndAll();
        clearedPatternsAreGone();
        withoutPatterns();
        noAnswer();
        oneAnswer();
        manyAnswers();
        allAnswers();
        digitsOfLetters();
        risingNumbers();
        notWithoutLetters();
        notWithBoundLetters();
        notWithOtherLetters();
        notWithBoth();
        sizesAsked();
        sizeNoneOneAll();
        sizeOfItsOwnLetters();
        boundWithoutLetters();
        boundWithASizeOfNone();
        boundOfOnePattern();
        boundOfPowersZeroToTwo();
        boundOfTwoTogether();
        boundOverTheInts();
        answersAndBound();
        Check.end();
    }

    /** 102, 103, 204, 315 and 440. */
    private static Factloom five() {
        Factloom x = new Factloom();
        x.tell(102, 1);
        x.tell(103, 1);
        x.tell(204, 1);
        x.tell(315, 1);
        x.tell(440, 1);
        x.commit();
        return x;
    }

    private static Factloom ask(Factloom x, int not, int... patterns) {
        x.clear();
        x.not(not);
        for (int pattern : patterns) {
            x.pattern(pattern);
        }
        return x;
    }

    private static void dueAnswers(String what, Factloom x, int... due) {
        Check.due(what + ": answers()", due.length, x.answers());
        for (int nth = 0; nth < due.length; nth++) {
            int k = nth;
            Check.due(what + ": answer(" + k + ")", (Object) due[k], Check.outcome(() -> x.answer(k)));
        }
        Check.dueThrow(what + ": answer(" + due.length + ")", INDEX, () -> x.answer(due.length));
        Check.dueThrow(what + ": answer(-1)", INDEX, () -> x.answer(-1));
    }

    /** "The QUESTION: .. (none at first)". */
    private static void noneAtFirst() {
        Factloom x = new Factloom();
        Check.due("no patterns", 0, x.store(9));
        Check.due("no not", 0, x.store(10));
        Check.due("that before the first not", -1, x.not(5));
        Check.due("clear of none", 0, x.clear());
        Check.dueThrow("size(0)", INDEX, () -> x.size(0));
    }

    /** "at most 3 PATTERNS", "Throws IllegalStateException if there are 3". */
    private static void threePatterns() {
        Factloom x = five();
        for (int count = 1; count <= 3; count++) {
            Check.due("how many it has then", count, x.pattern(106));
            Check.due("store(9)", count, x.store(9));
        }
        Check.dueThrow("the fourth one", STATE, () -> x.pattern(204));
        Check.dueThrow("one that it has", STATE, () -> x.pattern(106));
        Check.due("store(9)", 3, x.store(9));
        dueAnswers("the same three times", x, 2999, 3999);
        x.not(103);
        Check.due("the not is none of them", 3, x.store(9));
        Check.due("clear", 3, x.clear());
        Check.due("there is room again", 1, x.pattern(0));
    }

    /** "perhaps one NOT", "NONE: without one", "Returns that before (NONE)". */
    private static void oneNot() {
        Factloom x = new Factloom();
        int before = -1;
        for (int pattern : new int[] {0, 999, 999, 5, -1, -1, 600}) {
            Check.due("not(" + pattern + ")", before, x.not(pattern));
            Check.due("store(10)", pattern == -1 ? 0 : 1, x.store(10));
            before = pattern;
        }
        Check.due("no pattern by it", 0, x.store(9));
    }

    /** "Empties the QUESTION (the NOT, too)", "how many PATTERNS it had (without the NOT)". */
    private static void clearOfNoneAndAll() {
        Factloom x = five();
        for (int count = 0; count <= 3; count++) {
            for (int k = 0; k < count; k++) {
                x.pattern(687);
            }
            x.not(999);
            Check.due("answers before", new int[] {1, 5, 5, 5}[count], x.answers());
            Check.due("clear", count, x.clear());
            Check.due("answers then", 1, x.answers());
            Check.due("no pattern", 0, x.store(9));
            Check.due("no not", 0, x.store(10));
            Check.due("clear again", 0, x.clear());
            dueAnswers("cleared", x, 9999);
            Check.due("bound", 1L, x.bound());
        }
        Check.due("that before the next not", -1, x.not(0));
    }

    /** What was in the QUESTION before counts for nothing: no pattern, no letter, no size, no power. */
    private static void clearedPatternsAreGone() {
        Factloom x = ask(five(), 607, 687, 678, 669);
        Check.due("no answers", 0, x.answers());
        Check.due("three sizes: 5, 5 and 1", 25L, x.bound());
        x.clear();
        x.pattern(106);
        dueAnswers("one pattern", x, 2999, 3999);
        Check.due("its bound", 4L, x.bound());
        Check.dueThrow("size(1)", INDEX, () -> x.size(1));
        x.pattern(107);
        dueAnswers("two patterns", x, 2299, 2399, 3299, 3399);
        Check.due("their bound", 16L, x.bound());
        Check.dueThrow("size(2)", INDEX, () -> x.size(2));
    }

    /** "(Without PATTERNS there is one ANSWER, if the NOT lets it: 9999.)" */
    private static void withoutPatterns() {
        dueAnswers("a new store", new Factloom(), 9999);
        dueAnswers("no not", five(), 9999);
        dueAnswers("a not of a word more", ask(five(), 101), 9999);
        dueAnswers("a not that holds", ask(five(), 102));
        dueAnswers("a not that holds for some letter", ask(five(), 660));
        dueAnswers("a not that holds for none", ask(five(), 661), 9999);
        dueAnswers("a not of all letters", ask(five(), 678));
        dueAnswers("of nothing", ask(new Factloom(), 678), 9999);
        dueAnswers("one letter thrice", ask(five(), 999), 9999);
    }

    /** No ANSWER: none is to be asked for, not even answer(0). */
    private static void noAnswer() {
        dueAnswers("nothing holds", ask(new Factloom(), -1, 678));
        dueAnswers("a triple that does not hold", ask(five(), -1, 555));
        dueAnswers("one of three does not hold", ask(five(), -1, 678, 102, 101));
        dueAnswers("not all agree", ask(five(), -1, 106, 206));
        dueAnswers("all are refused", ask(five(), 204, 106));
    }

    /** One ANSWER: answer(0), not answer(1). */
    private static void oneAnswer() {
        dueAnswers("no letter", ask(five(), -1, 102), 9999);
        dueAnswers("three without a letter", ask(five(), -1, 102, 103, 204), 9999);
        dueAnswers("one letter", ask(five(), -1, 206), 4999);
        dueAnswers("all agree", ask(five(), -1, 106, 607), 2499);
        dueAnswers("one is let", ask(five(), 604, 106), 3999);
    }

    /** Many ANSWERS: answer(n - 1), not answer(n). */
    private static void manyAnswers() {
        dueAnswers("two", ask(five(), -1, 106), 2999, 3999);
        dueAnswers("five", ask(five(), -1, 678), 1029, 1039, 2049, 3159, 4409);
        dueAnswers("four letters", ask(five(), -1, 687, 609), 1202, 1203, 1302, 1303, 2404);
    }

    /** "all BINDINGS of the LETTERS": 6 to the power of 4, from 0000 to 5555. */
    private static void allAnswers() {
        Factloom x = ask(Stores.full(), -1, 678, 789);
        Check.due("answers()", 1296, x.answers());
        Check.due("the first one", 0, x.answer(0));
        Check.due("the second one", 1, x.answer(1));
        Check.due("the last but one", 5554, x.answer(1294));
        Check.due("the last one", 5555, x.answer(1295));
        Check.dueThrow("none behind it", INDEX, () -> x.answer(1296));
        Check.dueThrow("none before the first one", INDEX, () -> x.answer(-1));
        Check.dueThrow("answer(MAX)", INDEX, () -> x.answer(Stores.MAX));
        Check.dueThrow("answer(MIN)", INDEX, () -> x.answer(Stores.MIN));
        for (int nth = 0; nth < 216; nth++) {
            int due = nth / 36 * 1000 + nth / 6 % 6 * 100 + nth % 6 * 10;
            Check.due("each sixth one", due, x.answer(6 * nth));
        }
        x.not(666);
        Check.due("a not that refuses all", 0, x.answers());
    }

    /** "told as the number with the digits of the LETTERS 6, 7, 8 and 9 (9 for a LETTER that is in none)". */
    private static void digitsOfLetters() {
        int[] due = {4999, 9499, 9949, 9994};
        for (int letter = 6; letter <= 9; letter++) {
            dueAnswers("the letter " + letter, ask(five(), -1, 200 + letter), due[letter - 6]);
            dueAnswers("letters of the not have no digit", ask(five(), 666, 200 + letter), due[letter - 6]);
        }
        dueAnswers("0 is a digit, too", ask(five(), -1, 446), 999);
        dueAnswers("the last one", ask(five(), -1, 449), 9990);
        dueAnswers("in whatever pattern", ask(five(), -1, 209, 447), 9094);
    }

    /** "by rising numbers": in whatever order the letters stand. */
    private static void risingNumbers() {
        dueAnswers("6 behind 9", ask(five(), -1, 906), 2991, 3991, 4992);
        dueAnswers("6 before 9", ask(five(), -1, 609), 1992, 1993, 2994);
        dueAnswers("8, 7, 6", ask(five(), -1, 876), 449, 2019, 3019, 4029, 5139);
    }

    /** A NOT without other LETTERS: does it HOLD or not. */
    private static void notWithoutLetters() {
        dueAnswers("it holds", ask(five(), 102, 106));
        dueAnswers("it does not hold", ask(five(), 101, 106), 2999, 3999);
        Factloom x = ask(five(), 100, 106);
        x.rule(100, 440, -1);
        dueAnswers("it is made", x);
        x.unrule();
        dueAnswers("it is not made", x, 2999, 3999);
    }

    /** A NOT of LETTERS that are in the PATTERNS alone: as they are bound. */
    private static void notWithBoundLetters() {
        dueAnswers("for one binding it holds", ask(five(), 604, 106), 3999);
        dueAnswers("for none it holds", ask(five(), 600, 106), 2999, 3999);
        dueAnswers("the pattern itself", ask(five(), 106, 106));
        dueAnswers("bound twice", ask(five(), 660, 678), 1029, 1039, 2049, 3159);
    }

    /** "for which no BINDING of the other LETTERS of the NOT makes it HOLD": none of them, not one alone. */
    private static void notWithOtherLetters() {
        dueAnswers("one other letter, some word does", ask(five(), 207, 106));
        dueAnswers("one other letter, no word does", ask(five(), 507, 106), 2999, 3999);
        dueAnswers("it is one word in both places", ask(five(), 778, 106));
        dueAnswers("and none here", ask(five(), 787, 106), 2999, 3999);
    }

    private static void notWithBoth() {
        dueAnswers("the bound one first", ask(five(), 607, 106), 3999);
        dueAnswers("two other ones", ask(five(), 678, 106));
        dueAnswers("the bound one last", ask(five(), 876, 607), 1299, 1399, 2499);
        dueAnswers("the bound one in the second place", ask(five(), 867, 607), 1299, 1399, 2499);
        dueAnswers("two bound, one other", ask(five(), 678, 680), 4949);
        Factloom x = ask(five(), 607, 106);
        x.join(3, 2);
        dueAnswers("other letters are bound to heads", x);
    }

    /** "Throws IndexOutOfBoundsException if nth is below 0, or there are not so many", for 0 to 3 of them. */
    private static void sizesAsked() {
        Factloom x = five();
        int[] patterns = {106, 678, 102};
        int[] due = {2, 5, 1};
        for (int count = 0; count <= 3; count++) {
            for (int nth = 0; nth < count; nth++) {
                Check.due("size(" + nth + ") of " + count, due[nth], x.size(nth));
            }
            int none = count;
            Check.dueThrow("size(" + none + ") of " + count, INDEX, () -> x.size(none));
            Check.dueThrow("size(-1) of " + count, INDEX, () -> x.size(-1));
            Check.dueThrow("size(MAX)", INDEX, () -> x.size(Stores.MAX));
            Check.dueThrow("size(MIN)", INDEX, () -> x.size(Stores.MIN));
            if (count < 3) {
                x.pattern(patterns[count]);
            }
        }
        x.not(678);
        Check.dueThrow("the not has none", INDEX, () -> x.size(3));
        x.clear();
        x.not(678);
        Check.dueThrow("the not alone has none", INDEX, () -> x.size(0));
    }

    /** A SIZE of 0, of 1, of all: 216, 36, 6. */
    private static void sizeNoneOneAll() {
        Factloom x = ask(new Factloom(), -1, 678, 0, 666);
        for (int nth = 0; nth < 3; nth++) {
            Check.due("of nothing", 0, x.size(nth));
        }
        x = ask(Stores.full(), -1, 987, 676, 888);
        Check.due("three letters", 216, x.size(0));
        Check.due("two letters", 36, x.size(1));
        Check.due("one letter", 6, x.size(2));
        x = ask(Stores.full(), -1, 555);
        Check.due("no letter", 1, x.size(0));
    }

    /** "how many BINDINGS of its own LETTERS there are by which it HOLDS": the others do not count. */
    private static void sizeOfItsOwnLetters() {
        Factloom x = ask(five(), 607, 106, 206, 506);
        Check.due("no answers", 0, x.answers());
        Check.due("the first one", 2, x.size(0));
        Check.due("the second one", 1, x.size(1));
        Check.due("the third one", 0, x.size(2));
        x.join(2, 3);
        Check.due("to heads", 1, x.size(0));
    }

    /** "otherwise 1, if there is no LETTER": no PATTERN, or such as have none; the NOT has no part in it. */
    private static void boundWithoutLetters() {
        Check.due("a new store", 1L, new Factloom().bound());
        Check.due("no pattern", 1L, five().bound());
        Check.due("a not that refuses", 1L, ask(five(), 102).bound());
        Check.due("a not with letters", 1L, ask(five(), 678).bound());
        Check.due("one pattern", 1L, ask(five(), -1, 102).bound());
        Check.due("three patterns", 1L, ask(five(), 678, 102, 103, 440).bound());
    }

    /** "0, if a SIZE is 0": though its power might be 0, and though it has no LETTER. */
    private static void boundWithASizeOfNone() {
        Check.due("no letter", 0L, ask(five(), -1, 555).bound());
        Check.due("no letter, behind one that holds", 0L, ask(five(), -1, 102, 555).bound());
        Check.due("no letter, behind one with letters", 0L, ask(five(), -1, 678, 555).bound());
        Check.due("letters that others have, too", 0L, ask(five(), -1, 678, 106, 506).bound());
        Check.due("the first one", 0L, ask(five(), -1, 506, 678, 106).bound());
        Check.due("the second one", 0L, ask(five(), -1, 678, 506, 106).bound());
        Check.due("of nothing", 0L, ask(new Factloom(), -1, 678).bound());
    }

    /** Of one PATTERN with a LETTER: its SIZE to the power 2. */
    private static void boundOfOnePattern() {
        Check.due("1", 1L, ask(five(), -1, 206).bound());
        Check.due("2", 4L, ask(five(), -1, 106).bound());
        Check.due("5", 25L, ask(five(), -1, 678).bound());
        Check.due("216", 46656L, ask(Stores.full(), -1, 678).bound());
        Check.due("by the side of one without a letter", 4L, ask(five(), -1, 102, 106, 103).bound());
    }

    /** "SIZE to the power 0, 1 or 2 of each PATTERN", "the least product". */
    private static void boundOfPowersZeroToTwo() {
        Check.due("0 and 2", 4L, ask(threeAndTwo(), -1, 6, 106).bound());
        Check.due("2 and 0", 4L, ask(threeAndTwo(), -1, 106, 6).bound());
        Check.due("0, 2 and 0", 4L, ask(threeAndTwo(), -1, 6, 106, 6).bound());
        Check.due("0, 0 and 2", 4L, ask(threeAndTwo(), -1, 6, 6, 106).bound());
        Check.due("2, 0 and 0", 4L, ask(threeAndTwo(), -1, 106, 6, 6).bound());
        Check.due("one twice: 1 and 1, or 2 and 0", 4L, ask(threeAndTwo(), -1, 106, 106).bound());
        Check.due("unlike letters: 2 and 2", 36L, ask(threeAndTwo(), -1, 106, 7).bound());
        Check.due("three unlike letters: 2, 2 and 2", 4L * 9L * 4L, ask(threeAndTwo(), -1, 106, 7, 108).bound());
    }

    /** 000, 001, 002, 100 and 101. */
    private static Factloom threeAndTwo() {
        Factloom x = new Factloom();
        x.tell(0, 1);
        x.tell(1, 1);
        x.tell(2, 1);
        x.tell(100, 1);
        x.tell(101, 1);
        x.commit();
        return x;
    }

    /** "for each LETTER of theirs the powers of the PATTERNS with it are 2 or more together". */
    private static void boundOfTwoTogether() {
        Check.due("a triangle: 1, 1 and 1", 125L, ask(threeAndTwo(), -1, 607, 708, 806).bound());
        Check.due("a chain: 2, 0 and 2", 625L, ask(threeAndTwo(), -1, 607, 708, 809).bound());
        Check.due("a star: 2, 2 and 2", 15625L, ask(threeAndTwo(), -1, 607, 608, 609).bound());
        Check.due("one over all: 2, 0 and 0", 25L, ask(threeAndTwo(), -1, 678, 607, 808).bound());
        Check.due("less by the small ones: 0, 2 and 2", 16L, ask(threeAndTwo(), -1, 607, 106, 700).bound());
        Check.due("two over one: 1 and 1, or 0 and 2", 4L, ask(threeAndTwo(), -1, 600, 106).bound());
        Check.due("a pair twice", 25L, ask(threeAndTwo(), -1, 607, 706).bound());
    }

    /** A BOUND above 2^31 - 1. */
    private static void boundOverTheInts() {
        Check.due("216 to 2, twice", 2176782336L, ask(Stores.full(), -1, 678, 789).bound());
        Check.due("36 to 2, thrice", 2176782336L, ask(Stores.full(), -1, 69, 79, 89).bound());
        Check.due("216 to 1, 1 and 1", 10077696L, ask(Stores.full(), -1, 678, 789, 896).bound());
    }

    /** "ANSWERS times ANSWERS are not above BOUND": as near as they come, and far away. */
    private static void answersAndBound() {
        Factloom x = ask(Stores.full(), -1, 678);
        Check.due("as many as the bound", x.bound(), (long) x.answers() * x.answers());
        Check.due("sound", true, x.isSound());
        x.not(678);
        Check.due("none", 0, x.answers());
        Check.due("sound", true, x.isSound());
        x = ask(Stores.full(), -1, 678, 789);
        Check.due("1296 times 1296, and more", true, 1296L * 1296L < x.bound());
        Check.due("sound", true, x.isSound());
        x = ask(new Factloom(), -1, 678);
        Check.due("0 and 0", 0L, x.bound() + x.answers());
        Check.due("sound", true, x.isSound());
        Check.due("1 and 1", true, new Factloom().isSound());
        Check.due("0 and 1", true, ask(five(), 678).isSound());
    }
}
